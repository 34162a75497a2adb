
/-! ===== read: a field's line, the reference ===== -/
section Fp
variable {g h k : zS} {tn : Nat} {tb : Nat → Nat} {s p t : Nat} {P : zPl} {N : Nat} {r : Nat → Nat}
/-- the draft and what stands of the new field -/
def fdM (P : zPl) (r : Nat → Nat) (tn : Nat) (tb : Nat → Nat) (t sc : Nat) (g : zS) : Prop := mDf P 0 r g ∧ g.2.1 44 (pn P) = nL (nmL (wd tn tb t)) ∧ g.1 47 (pn P) = nI sc
theorem fdM_mw {W : Nat → Nat → Prop} {sc : Nat} (q : ∀ c k, W c k → (c < 44 ∨ 49 < c) ∧ (c = 42 → k < 6 ∨ 9 < k)) (a : mw W g h) (d : fdM P r tn tb t sc g) : fdM P r tn tb t sc h := ⟨mDf_mw q a d.1, by rw [a.2]; exact d.2.1, by rw [a.1 47 _ (fun w => by have := (q _ _ w).1; omega)]; exact d.2.2⟩
theorem fd_end (hm0 : pm P = 0) {q w sc : Nat} (hX : rdX tn tb p g) (hM : fdM P r tn tb t sc g) (h5 : g.1 42 5 = -1) (hq : g.1 45 (pn P) = nI q) : ∃ h, h = zi (zi g 46 (pn P) (nI w)) 42 6 (nI (pn P + 1)) ∧ rdX tn tb p h ∧ h.1 42 5 = -1 ∧ mDf (wF P q w sc (wd tn tb t)) 0 r h ∧ mw wRd g h := by
  obtain ⟨⟨d0, d1, d2, d3, d4, d5, d6, d7, d8, d9⟩, e1, e2⟩ := hM
  have m : mw (fun c k => c = 46 ∨ (c = 42 ∧ k = 6)) g (zi (zi g 46 (pn P) (nI w)) 42 6 (nI (pn P + 1))) := mw_tr (mw_zi (W := fun c k => c = 46 ∨ (c = 42 ∧ k = 6)) (Or.inl rfl) _ _) (mw_zi (W := fun c k => c = 46 ∨ (c = 42 ∧ k = 6)) (Or.inr ⟨rfl, rfl⟩) _ _)
  refine ⟨_, rfl, ⟨rdT_mw (fun c k q => by omega) m hX.1, by rw [m.1 42 4 (by omega)]; exact hX.2.1, hX.2.2⟩, by rw [m.1 42 5 (by omega)]; exact h5, ⟨zi_at _ _ _ _, by rw [m.1 42 7 (by omega)]; exact d1, by rw [m.1 42 8 (by omega)]; exact d2, by rw [m.1 42 9 (by omega)]; exact d3, fun f hf => ?_, fun f hf => ?_, fun f hf => ?_, fun f hf => ?_, fun e he f hf => ?_, fun k hk => by omega⟩, mw_le (fun c k q => by unfold wRd; omega) m⟩
  · have hf' : f < pn P + 1 := hf
    show g.2.1 44 f = nL (nmL (if f = pn P then wd tn tb t else pl P f))
    by_cases c : f = pn P
    · rw [if_pos c, c]; exact e1
    · rw [if_neg c]; exact d4 f (by omega)
  · have hf' : f < pn P + 1 := hf
    show _ = nI (if f = pn P then q else pq P f)
    rw [m.1 45 f (by omega)]
    by_cases c : f = pn P
    · rw [if_pos c, c]; exact hq
    · rw [if_neg c]; exact d5 f (by omega)
  · have hf' : f < pn P + 1 := hf
    show _ = nI (if f = pn P then w else pw P f)
    rw [zi_cell _ _ (by omega)]
    by_cases c : f = pn P
    · rw [if_pos c, c, zi_at]
    · rw [if_neg c, zi_else _ _ (by omega)]; exact d6 f (by omega)
  · have hf' : f < pn P + 1 := hf
    show _ = nI (if f = pn P then sc else ps P f)
    rw [m.1 47 f (by omega)]
    by_cases c : f = pn P
    · rw [if_pos c, c]; exact e2
    · rw [if_neg c]; exact d7 f (by omega)
  · have he' : e < pm P := he
    omega
theorem m_fd141 (hp : pn P < 5) (hm0 : pm P = 0) {sc : Nat} (hX : rdX tn tb p g) (hM : fdM P r tn tb t sc g) (h5 : g.1 42 5 = -1) : (∀ t' q w sc', fdV tn tb (sk tn tb p) sc = .inl (t', q, w, sc') → ∃ h p', jX11_fieldLine_141 (nI (pn P)) g = some h ∧ rdX tn tb p' h ∧ sk tn tb p' = t' ∧ h.1 42 5 = -1 ∧ mDf (wF P q w sc' (wd tn tb t)) 0 r h ∧ mw wRd g h) ∧ (∀ t', fdV tn tb (sk tn tb p) sc = .inr t' → ∃ h, jX11_fieldLine_141 (nI (pn P)) g = some h ∧ h.1 42 5 = nI t' ∧ mw wRd g h) := by
  have ht4 := hX.1.2.2.1
  have hsk := sk_le (tb := tb) hX.2.2.1
  obtain ⟨n1, n2⟩ := m_digit (lo := 2) (hi := 5) hX h5 (by omega) (by omega)
  have hne : ∀ {q : zS} {t : Nat}, t ≤ 400 → q.1 42 5 = nI t → ¬ q.1 42 5 = -1 := fun h0 h e => by rw [h, nI_m1, nN_eqm (by omega)] at e; exact e
  unfold jX11_fieldLine_141
  unfold fdV
  by_cases d : dgO tn tb (sk tn tb p) 2 5
  · obtain ⟨g1, w1, a1, a2⟩ := n1 d
    obtain ⟨_, hte⟩ := dg_te d
    rw [if_pos d, hte, show nX11_digit (2 : Int32) (5 : Int32) g = some (nI (tb (sk tn tb p) - 48), g1) from w1, Option.bind_some]
    dsimp only
    rw [zchk_t (zin_nI (by omega) (by omega)), nI_cl (by omega)]
    obtain ⟨z, ez⟩ : ∃ z, z = zi g1 45 (pn P) (nI (tb (sk tn tb p) - 48)) := ⟨_, rfl⟩
    have mz : mw (fun c _ => c = 45) g1 z := by rw [ez]; exact mw_zi (W := fun c _ => c = 45) rfl _ _
    have zX : rdX tn tb (sk tn tb p + 1) z := ⟨rdT_mw (fun c k q => by omega) mz a1.1, by rw [mz.1 42 4 (by omega)]; exact a1.2.1, a1.2.2⟩
    have z5 : z.1 42 5 = -1 := by rw [mz.1 42 5 (by omega), a2.1 42 5 (by unfold wP4; omega)]; exact h5
    have zq : z.1 45 (pn P) = nI (tb (sk tn tb p) - 48) := by rw [ez, zi_at]
    have zM : fdM P r tn tb t sc z := by
      have M1 := fdM_mw (fun c k q => by unfold wP4 at q; omega) a2 hM
      obtain ⟨⟨d0, d1, d2, d3, d4, d5, d6, d7, d8, d9⟩, e1, e2⟩ := M1
      refine ⟨⟨by rw [mz.1 42 6 (by omega)]; exact d0, by rw [mz.1 42 7 (by omega)]; exact d1, by rw [mz.1 42 8 (by omega)]; exact d2, by rw [mz.1 42 9 (by omega)]; exact d3, by rw [mz.2]; exact d4, fun f hf => by rw [ez, zi_else _ _ (by omega)]; exact d5 f hf, fun f hf => by rw [mz.1 46 f (by omega)]; exact d6 f hf, fun f hf => by rw [mz.1 47 f (by omega)]; exact d7 f hf, fun e he f hf => by rw [mz.1 48 _ (by omega)]; exact d8 e he f hf, fun k hk => by omega⟩, by rw [mz.2]; exact e1, by rw [mz.1 47 _ (by omega)]; exact e2⟩
    have zm : mw wRd g z := mw_tr (wP4_Rd a2) (mw_le (fun c k q => by unfold wRd; omega) mz)
    obtain ⟨g2, w2, b1, b2⟩ := (m_takes_913 zX).1 z5
    have M2 := fdM_mw (fun c k q => by unfold wP4 at q; omega) b2 zM
    have h52 : g2.1 42 5 = -1 := by rw [b2.1 42 5 (by unfold wP4; omega)]; exact z5
    have q2 : g2.1 45 (pn P) = nI (tb (sk tn tb p) - 48) := by rw [b2.1 45 _ (by unfold wP4; omega)]; exact zq
    have m2 : mw wRd g g2 := mw_tr zm (wP4_Rd b2)
    rw [← ez, w2, Option.bind_some]
    dsimp only
    unfold fdW
    by_cases q : wd tn tb (sk tn tb (sk tn tb p + 1)) = wdL 3
    · obtain ⟨y1, y2, y3⟩ := word_te (k := 3) (L := 6) rfl (by omega) q
      rw [if_pos q] at b1
      rw [if_pos q, if_pos q, if_neg n01, y2]
      obtain ⟨v1, v2⟩ := m_digit (lo := 1) (hi := 9) b1 h52 (by omega) (by omega)
      have hs3 := sk_le (tb := tb) b1.2.2.1
      by_cases e : dgO tn tb (sk tn tb (sk tn tb (sk tn tb p + 1) + 6)) 1 9
      · obtain ⟨g3, w3, c1, c2⟩ := v1 e
        obtain ⟨_, hte3⟩ := dg_te e
        have M3 := fdM_mw (fun c k q => by unfold wP4 at q; omega) c2 M2
        have h53 : g3.1 42 5 = -1 := by rw [c2.1 42 5 (by unfold wP4; omega)]; exact h52
        have q3 : g3.1 45 (pn P) = nI (tb (sk tn tb p) - 48) := by rw [c2.1 45 _ (by unfold wP4; omega)]; exact q2
        rw [if_pos e, hte3, show nX11_digit (1 : Int32) (9 : Int32) g2 = some (nI (tb (sk tn tb (sk tn tb (sk tn tb p + 1) + 6)) - 48), g3) from w3, Option.bind_some]
        dsimp only
        refine ⟨fun t' q w sc' ee => ?_, fun t' ee => (by cases ee)⟩
        cases ee
        obtain ⟨h, eh, x1, x2, x3, x4⟩ := fd_end (w := tb (sk tn tb (sk tn tb (sk tn tb p + 1) + 6)) - 48) hm0 c1 M3 h53 q3
        refine ⟨h, _, ?_, x1, rfl, x2, x3, mw_tr m2 (mw_tr (wP4_Rd c2) x4)⟩
        rw [zchk_t (zin_nI (by omega) (by omega)), zi_else (c := 46) (d := 42) (i := 6) _ _ (by omega), M3.1.1, nI_s, eh]
      · obtain ⟨g3, w3, c1, c3, c2⟩ := v2 e
        rw [if_neg e, show nX11_digit (1 : Int32) (9 : Int32) g2 = some (nI 1, g3) from w3, Option.bind_some]
        dsimp only
        refine ⟨fun t' q w sc' ee => (by cases ee), fun t' ee => ?_⟩
        cases ee
        rw [zchk_t (zin_nI (by omega) (by omega))]
        exact ⟨_, rfl, by rw [zi_else _ _ (by omega), zi_else _ _ (by omega)]; exact c3, mw_tr m2 (mw_tr (wP45_Rd c2) (mw_tr (mw_zi (Or.inr ⟨by omega, by omega⟩) _ _) (mw_zi (Or.inl ⟨rfl, Or.inr ⟨by omega, by omega⟩⟩) _ _)))⟩
    · rw [if_neg q] at b1
      rw [if_neg q, if_neg q, if_pos rfl]
      refine ⟨fun t' q w sc' ee => ?_, fun t' ee => (by cases ee)⟩
      cases ee
      obtain ⟨h, eh, x1, x2, x3, x4⟩ := fd_end (w := 1) hm0 b1 M2 h52 q2
      refine ⟨h, _, ?_, x1, sk_sk zX.2.2.1, x2, x3, mw_tr m2 x4⟩
      rw [zchk_t (zin_nI (by omega) (by omega)), zi_else (c := 46) (d := 42) (i := 6) _ _ (by omega), M2.1.1, nI_s, eh]
      rfl
  · obtain ⟨g1, w1, a1, a3, a2⟩ := n2 d
    rw [if_neg d, show nX11_digit (2 : Int32) (5 : Int32) g = some (nI 2, g1) from w1, Option.bind_some]
    dsimp only
    refine ⟨fun t' q w sc' ee => (by cases ee), fun t' ee => ?_⟩
    cases ee
    have z5 : (zi g1 45 (pn P) (nI 2)).1 42 5 = nI (sk tn tb p) := by rw [zi_else _ _ (by omega)]; exact a3
    rw [zchk_t (zin_nI (by omega) (by omega)), nI_cl (by omega)]
    unfold nX11_takes_913
    rw [if_neg (hne (t := sk tn tb p) (by omega) z5), Option.bind_some, if_pos rfl]
    dsimp only
    rw [zchk_t (zin_nI (by omega) (by omega))]
    exact ⟨_, rfl, by rw [zi_else _ _ (by omega), zi_else _ _ (by omega)]; exact z5, mw_tr (wP45_Rd a2) (mw_tr (mw_zi (Or.inr ⟨by omega, by omega⟩) _ _) (mw_tr (mw_zi (Or.inr ⟨by omega, by omega⟩) _ _) (mw_zi (Or.inl ⟨rfl, Or.inr ⟨by omega, by omega⟩⟩) _ _)))⟩
end Fp
