
/-! ===== read: an edit's line, the reference ===== -/
section Em
variable {g h k : zS} {tn : Nat} {tb : Nat → Nat} {s p : Nat} {P : zPl} {N : Nat} {r : Nat → Nat}
theorem mDf_48 {f : Nat} {x : Int32} (h5 : pn P ≤ 5) (d : mDf P N r g) : mDf P N r (zi g 48 (5 * pm P + f) x) := by
  obtain ⟨d0, d1, d2, d3, d4, d5, d6, d7, d8, d9⟩ := d
  refine ⟨by rw [zi_else _ _ (by omega)]; exact d0, by rw [zi_else _ _ (by omega)]; exact d1, by rw [zi_else _ _ (by omega)]; exact d2, by rw [zi_else _ _ (by omega)]; exact d3, d4, fun f hf => by rw [zi_cell _ _ (by omega)]; exact d5 f hf, fun f hf => by rw [zi_cell _ _ (by omega)]; exact d6 f hf, fun f hf => by rw [zi_cell _ _ (by omega)]; exact d7 f hf, fun e he e2 he2 => by rw [zi_else _ _ (by omega)]; exact d8 e he e2 he2, fun k hk e he => by rw [zi_cell _ _ (by omega)]; exact d9 k hk e he⟩
theorem rdX_48 {i : Nat} {x : Int32} (hX : rdX tn tb p g) : rdX tn tb p (zi g 48 i x) := ⟨rdT_mw (W := fun c _ => c = 48) (fun c k q => by omega) (mw_zi (W := fun c _ => c = 48) rfl _ _) hX.1, by rw [zi_else _ _ (by omega)]; exact hX.2.1, hX.2.2⟩
/-- behind a fault the line ends soon -/
theorem m_edit_bad (hO : pOK P) {a1 : Int32} {f : Nat} (hf : f < pn P) {z : zS} {t : Nat} (ht : t ≤ 400) (hD : mDf P N r z) (hm : pm P < 6) {x : Int32} {y : zS} (hy : ∃ W : Nat → Nat → Prop, (∀ c k, W c k → c = 42 ∧ (k = 4 ∨ k = 5)) ∧ mw W z y) (hy5 : y.1 42 5 = nI t) (hsp : nX11_spans (nI (pq P f - 1)) z = some (x, y)) : ∃ q h, jX11_editLine_150 a1 (nI f) z = some (.inl (a1, 0, q)) ∧ wX11_editLine_75 (a1, 0, q) = some (.inr h) ∧ h.1 42 5 = nI t ∧ mw wRd z h := by
  have hp5 := hO.1
  have hq := hO.2.1 f hf
  obtain ⟨W, w1, w2⟩ := hy
  have hD2 := mDf_mw (fun c k q => by have := w1 c k q; omega) w2 hD
  have e45 : z.1 45 f - (1 : Int32) = nI (pq P f - 1) := by rw [hD.2.2.2.2.2.1 f hf]; exact nI_sub (b := 1) (by omega)
  have hne : ∀ {q : zS}, q.1 42 5 = nI t → ¬ q.1 42 5 = -1 := fun h e => by rw [h, nI_m1, nN_eqm (by omega)] at e; exact e
  have q5 : (zi y 48 (5 * pm P + f) x).1 42 5 = nI t := by rw [zi_else _ _ (by omega)]; exact hy5
  refine ⟨zi y 48 (5 * pm P + f) x, zi (zi y 48 (5 * pm P + f) x) 42 7 (nI (pm P + 1)), ?_, ?_, by rw [zi_else _ _ (by omega)]; exact q5, mw_tr (mw_le (fun c k q => by have := w1 c k q; unfold wRd; omega) w2) (mw_tr (mw_zi (Or.inr ⟨by omega, by omega⟩) _ _) (mw_zi (Or.inl ⟨rfl, Or.inr ⟨by omega, by omega⟩⟩) _ _))⟩
  · unfold jX11_editLine_150
    rw [zchk_t (zin_nI (by omega) (by omega)), nI_cl (by omega), e45, hsp, Option.bind_some]
    dsimp only
    rw [hD.2.1, show (5 : Int32) * nI (pm P) = nI (5 * pm P) from nI_mul 5 _, nN_add, zchk_t (zin_nI (by omega) (by omega)), nI_cl (by omega)]
    unfold nX11_takes_916
    rw [if_neg (hne q5), Option.bind_some]
  · unfold wX11_editLine_75
    dsimp only
    rw [if_pos rfl, zi_else _ _ (by omega), hD2.2.1, nI_s]
    rfl
theorem spR_le {hi : Nat} : ∀ {k t m t'}, t ≤ tn → spR tn tb hi k t m = .inr t' → t' ≤ tn
  | 0, t, m, t', ht, e => by
    have := Sum.inr.inj e
    omega
  | k + 1, t, m, t', ht, e => by
    have next : ∀ {s : Nat}, s ≤ tn → sk tn tb (te tn tb s) ≤ tn := fun {s} hs => (sk_le (te_le hs).2.1).2
    have cont : ∀ {v u t m}, t ≤ tn → spA tn tb (spR tn tb hi k) v u t m = .inr t' → t' ≤ tn := fun {v u t m} h e => by
      unfold spA at e
      by_cases q : chr tn tb t = 44
      · rw [if_pos q] at e; exact spR_le (next h) e
      · rw [if_neg q] at e; cases e
    unfold spR at e
    by_cases d : dgO tn tb t 0 hi
    · rw [if_pos d] at e
      by_cases q : chr tn tb (sk tn tb (te tn tb t)) = 45
      · rw [if_pos q] at e
        by_cases d2 : dgO tn tb (sk tn tb (te tn tb (sk tn tb (te tn tb t)))) (tb t - 48) hi
        · rw [if_pos d2] at e
          exact cont (next (next (next ht))) e
        · rw [if_neg d2] at e
          have := Sum.inr.inj e
          have := next (next ht)
          omega
      · rw [if_neg q] at e
        exact cont (next ht) e
    · rw [if_neg d] at e
      have := Sum.inr.inj e
      omega
theorem m_edit75 (hO : pOK P) (hn : nmOK P) (hm : pm P < 6) : ∀ k t p sn V cn (g : zS), rdX tn tb p g → sk tn tb p = t → sn < 32 → cnt (fun f => sn.testBit f) (pn P) = cn → cn + k = 6 → g.1 42 5 = -1 → mDf P N r g → (∀ f, f < pn P → g.1 48 (5 * pm P + f) = nI (V f)) → (∀ t' V', edR P tn tb k t sn V = .inl (t', V') → ∃ h p', wh (wX11_editLine_75 ) (nI sn, (1 : Int32), g) = some h ∧ rdX tn tb p' h ∧ sk tn tb p' = t' ∧ h.1 42 5 = -1 ∧ mDf (wE P V') N r h ∧ mw wRd g h) ∧ (∀ t', edR P tn tb k t sn V = .inr t' → ∃ h, wh (wX11_editLine_75 ) (nI sn, (1 : Int32), g) = some h ∧ h.1 42 5 = nI t' ∧ mw wRd g h) := by
  have h5 := hO.1
  intro k
  induction k with
  | zero =>
    intro t p sn V cn g _ _ _ hc hk
    have := cnt_le (fun f => sn.testBit f) (pn P)
    omega
  | succ k ih =>
    intro t p sn V cn g hX hp hsn hc hk h5g hD hV
    have ht400 := hX.1.2.2.1
    have hskp := sk_le (tb := tb) hX.2.2.1
    rw [hp] at hskp
    have hs1 : sk tn tb t = t := by rw [← hp]; exact sk_sk hX.2.2.1
    obtain ⟨g1, w1, a1, a2⟩ := m_fieldHere hO hn hX hD
    rw [hp] at w1 a1
    have h51 : g1.1 42 5 = -1 := by rw [a2.1 42 5 (by unfold wP4; omega)]; exact h5g
    have hD1 := mDf_mw (fun c k q => by unfold wP4 at q; omega) a2 hD
    have base : wX11_editLine_75 (nI sn, (1 : Int32), g) = (if (if told tn tb P t < pn P then nI (told tn tb P t) else -1) = (-1 : Int32) then (jX11_editLine_105 (nI sn) (if told tn tb P t < pn P then nI (told tn tb P t) else -1) g1) else ((nX11_has (nI sn) (if told tn tb P t < pn P then nI (told tn tb P t) else -1)).bind fun v8 => if v8 = 0 then (jX11_editLine_109 (nI sn) (if told tn tb P t < pn P then nI (told tn tb P t) else -1) g1) else (jX11_editLine_105 (nI sn) (if told tn tb P t < pn P then nI (told tn tb P t) else -1) g1))) := by
      unfold wX11_editLine_75
      dsimp only
      rw [if_neg n01, if_pos h5g, w1, Option.bind_some]
    have hne : ∀ {q : zS} {t : Nat}, t ≤ 400 → q.1 42 5 = nI t → ¬ q.1 42 5 = -1 := fun h0 h e => by rw [h, nI_m1, nN_eqm (by omega)] at e; exact e
    have bad : ∀ x y : Int32, jX11_editLine_105 x y g1 = some (.inr (zi g1 42 5 (nI t))) := fun x y => by
      unfold jX11_editLine_105 jX11_editLine_109
      rw [m_wrong a1 h51, Option.bind_some, if_neg (hne (t := t) (by omega) (zi_at _ _ _ _))]
      rfl
    have mbad : mw wRd g (zi g1 42 5 (nI t)) := mw_tr (wP4_Rd a2) (mw_zi (Or.inl ⟨rfl, Or.inr ⟨by omega, by omega⟩⟩) _ _)
    unfold edR
    by_cases q : told tn tb P t < pn P ∧ sn.testBit (told tn tb P t) = false
    · rw [if_pos q]
      obtain ⟨f, ef⟩ : ∃ f, f = told tn tb P t := ⟨_, rfl⟩
      have hnm := told_nm hn hO q.1
      rw [← ef] at q base ⊢
      obtain ⟨qf, q2⟩ := q
      have hq := hO.2.1 f qf
      obtain ⟨n1, n2, n3⟩ := nm_te hnm
      have hf1 : ¬ nI f = -1 := fun e => by rw [nI_m1, nN_eqm (by omega)] at e; exact e
      rw [if_pos qf, if_neg hf1, m_has (by omega) (by omega), Option.bind_some, q2, if_pos (show (if false = true then (1 : Int32) else 0) = 0 by decide)] at base
      obtain ⟨g2, w2, b1, b2⟩ := m_wordSize a1
      rw [hs1] at w2 b1
      have c1 : rdX tn tb (te tn tb t) (zi g2 42 4 (nI (te tn tb t))) := rdX_mv b1 (by omega)
      have m3 : mw wP4 g (zi g2 42 4 (nI (te tn tb t))) := mw_tr a2 (mw_tr b2 (mw_zi ⟨rfl, rfl⟩ _ _))
      obtain ⟨g3, eg3⟩ : ∃ g3, g3 = zi g2 42 4 (nI (te tn tb t)) := ⟨_, rfl⟩
      rw [← eg3] at c1 m3
      have h53 : g3.1 42 5 = -1 := by rw [m3.1 42 5 (by unfold wP4; omega)]; exact h5g
      obtain ⟨g4, w4, d1, d2⟩ := (m_takes_917 c1).1 h53
      obtain ⟨t2, et2⟩ : ∃ t2, t2 = sk tn tb (te tn tb t) := ⟨_, rfl⟩
      rw [← et2] at w4 d1 ⊢
      have ht2 : t2 ≤ tn := by rw [et2]; exact (sk_le c1.2.2.1).2
      have m4 : mw wP4 g g4 := mw_tr m3 d2
      have h54 : g4.1 42 5 = -1 := by rw [m4.1 42 5 (by unfold wP4; omega)]; exact h5g
      have hD4 := mDf_mw (fun c k q => by unfold wP4 at q; omega) m4 hD
      have hsn2 : sn ||| 2 ^ f < 32 := Nat.or_lt_two_pow (n := 5) hsn (Nat.pow_lt_pow_right (by omega) (by omega))
      have b109 : jX11_editLine_109 (nI sn) (nI f) g1 = (if (if wd tn tb t2 = wdL 7 then (1 : Int32) else 0) = 0 then ((nX11_wrong g4).bind fun v7 => jX11_editLine_150 (nI (sn ||| 2 ^ f)) (nI f) v7) else (jX11_editLine_150 (nI (sn ||| 2 ^ f)) (nI f) g4)) := by
        unfold jX11_editLine_109
        rw [if_pos h51, w2, Option.bind_some]
        dsimp only
        rw [a1.2.1, nN_add, ← n2, ← eg3, w4, Option.bind_some, nI_shl (by omega), nI_or]
      rw [b109] at base
      by_cases q3 : wd tn tb t2 = wdL 7
      · rw [if_pos q3] at d1
        rw [if_pos q3, if_neg n01] at base
        rw [if_pos q3]
        obtain ⟨x1, x2, x3⟩ := word_te (k := 7) (L := 2) rfl (by omega) q3
        have d1' : rdX tn tb (t2 + 2) g4 := d1
        rw [x2]
        have hsk2 := sk_le (tb := tb) x3
        obtain ⟨sp1, sp2⟩ := m_spans4 (hi := pq P f - 1) (by omega) (tn + 1) (sk tn tb (t2 + 2)) (t2 + 2) 0 g4 d1' rfl (by omega) h54
        cases hsp : spR tn tb (pq P f - 1) (tn + 1) (sk tn tb (t2 + 2)) 0 with
        | inr t' =>
          obtain ⟨x, g5, w5, e1, e2⟩ := sp2 t' hsp
          dsimp only
          refine ⟨fun t' V' e => (by cases e), fun t'' e => ?_⟩
          have e3 := Sum.inr.inj e
          subst e3
          have ht' : t' ≤ 400 := by
            by_cases z : t' ≤ 400
            · exact z
            · exact absurd (spR_le (hi := pq P f - 1) hsk2.2 hsp) (by omega)
          obtain ⟨y, h, k1, k2, k3, k4⟩ := m_edit_bad (a1 := nI (sn ||| 2 ^ f)) (t := t') hO qf ht' hD4 hm ⟨wP45, fun c k w => by unfold wP45 at w; omega, e2⟩ e1 w5
          rw [k1] at base
          rw [wh_in base]
          exact ⟨h, wh_out k2, k3, mw_tr (wP4_Rd m4) k4⟩
        | inl tm =>
          obtain ⟨t', m'⟩ := tm
          obtain ⟨g5, p', w5, e1, e2, e3, e4⟩ := sp1 t' m' hsp
          have hD5 := mDf_mw (fun c k q => by unfold wP45 at q; omega) e4 hD4
          obtain ⟨z, ez⟩ : ∃ z, z = zi g5 48 (5 * pm P + f) (nI m') := ⟨_, rfl⟩
          have zX : rdX tn tb p' z := by rw [ez]; exact rdX_48 e1
          have zD : mDf P N r z := by rw [ez]; exact mDf_48 h5 hD5
          have z5 : z.1 42 5 = -1 := by rw [ez, zi_else _ _ (by omega)]; exact e3
          have zm : mw wRd g z := by rw [ez]; exact mw_tr (wP4_Rd m4) (mw_tr (wP45_Rd e4) (mw_zi (Or.inr ⟨by omega, by omega⟩) _ _))
          have zV : ∀ e, e < pn P → z.1 48 (5 * pm P + e) = nI (upA V f m' e) := fun e he => by
            rw [ez]
            unfold upA
            by_cases w : e = f
            · rw [w, zi_at, if_pos rfl]
            · rw [zi_else _ _ (by omega), if_neg w, e4.1 48 _ (by unfold wP45; omega), m4.1 48 _ (by unfold wP4; omega)]
              exact hV e he
          obtain ⟨g6, w6, f1, f2⟩ := (m_takes_916 zX).1 z5
          rw [e2] at w6 f1
          have h56 : g6.1 42 5 = -1 := by rw [f2.1 42 5 (by unfold wP4; omega)]; exact z5
          have hD6 := mDf_mw (fun c k q => by unfold wP4 at q; omega) f2 zD
          have m6 : mw wRd g g6 := mw_tr zm (wP4_Rd f2)
          have hV6 : ∀ e, e < pn P → g6.1 48 (5 * pm P + e) = nI (upA V f m' e) := fun e he => by rw [f2.1 48 _ (by unfold wP4; omega)]; exact zV e he
          have e45 : g4.1 45 f - (1 : Int32) = nI (pq P f - 1) := by rw [hD4.2.2.2.2.2.1 f qf]; exact nI_sub (b := 1) (by omega)
          have b150 : jX11_editLine_150 (nI (sn ||| 2 ^ f)) (nI f) g4 = some (.inl (nI (sn ||| 2 ^ f), (if wd tn tb t' = wdL 6 then 1 else 0), g6)) := by
            unfold jX11_editLine_150 nX11_spans
            rw [zchk_t (zin_nI (by omega) (by omega)), nI_cl (by omega), e45, show wh (wX11_spans_4 (nI (pq P f - 1))) ((0 : Int32), (1 : Int32), g4) = some (nI m', g5) from w5, Option.bind_some]
            dsimp only
            rw [hD4.2.1, show (5 : Int32) * nI (pm P) = nI (5 * pm P) from nI_mul 5 _, nN_add, zchk_t (zin_nI (by omega) (by omega)), nI_cl (by omega), ← ez, w6, Option.bind_some]
          rw [b150] at base
          rw [wh_in base]
          dsimp only
          by_cases q4 : wd tn tb t' = wdL 6
          · obtain ⟨y1, y2, y3⟩ := word_te (k := 6) (L := 3) rfl (by omega) q4
            rw [if_pos q4, if_pos q4, y2]
            rw [if_pos q4] at f1
            have hcn : cnt (fun e => (sn ||| 2 ^ f).testBit e) (pn P) = cn + 1 := by
              rw [← hc]
              refine cnt_upd (j := f) q2 ?_ (fun i hi => ?_) _ qf
              · rw [Nat.testBit_or, Nat.testBit_two_pow_self, Bool.or_true]
              · rw [Nat.testBit_or, Nat.testBit_two_pow, decide_eq_false (fun e => hi e.symm), Bool.or_false]
            obtain ⟨i1, i2⟩ := ih (sk tn tb (t' + 3)) (t' + 3) (sn ||| 2 ^ f) (upA V f m') (cn + 1) g6 f1 rfl hsn2 hcn (by omega) h56 hD6 hV6
            refine ⟨fun t'' V' e => ?_, fun t'' e => ?_⟩
            · obtain ⟨h, p2, w, r1, r2, r3, r4, r5⟩ := i1 t'' V' e
              exact ⟨h, p2, w, r1, r2, r3, r4, mw_tr m6 r5⟩
            · obtain ⟨h, w, r1, r5⟩ := i2 t'' e
              exact ⟨h, w, r1, mw_tr m6 r5⟩
          · rw [if_neg q4, if_neg q4]
            rw [if_neg q4] at f1
            refine ⟨fun t'' V' e => ?_, fun t'' e => (by cases e)⟩
            have e8 := congrArg Prod.fst (Sum.inl.inj e)
            have e9 := congrArg Prod.snd (Sum.inl.inj e)
            dsimp only at e8 e9
            subst e8 e9
            have st0 : wX11_editLine_75 (nI (sn ||| 2 ^ f), (0 : Int32), g6) = some (.inr (zi g6 42 7 (nI (pm P + 1)))) := by
              unfold wX11_editLine_75
              dsimp only
              rw [if_pos rfl, hD6.2.1, nI_s]
              rfl
            refine ⟨zi g6 42 7 (nI (pm P + 1)), t', wh_out st0, ⟨rdT_mw (W := fun c k => c = 42 ∧ k = 7) (fun c k q => by omega) (mw_zi ⟨rfl, rfl⟩ _ _) f1.1, by rw [zi_else _ _ (by omega)]; exact f1.2.1, f1.2.2⟩, ?_, by rw [zi_else _ _ (by omega)]; exact h56, ?_, mw_tr m6 (mw_zi (Or.inl ⟨rfl, Or.inr ⟨by omega, by omega⟩⟩) _ _)⟩
            · rw [← e2]; exact sk_sk e1.2.2.1
            · obtain ⟨v0, v1, v2, v3, v4, v5, v6, v7, v8, v9⟩ := hD6
              refine ⟨by rw [zi_else _ _ (by omega)]; exact v0, zi_at _ _ _ _, by rw [zi_else _ _ (by omega)]; exact v2, by rw [zi_else _ _ (by omega)]; exact v3, v4, fun f hf => by rw [zi_cell _ _ (by omega)]; exact v5 f hf, fun f hf => by rw [zi_cell _ _ (by omega)]; exact v6 f hf, fun f hf => by rw [zi_cell _ _ (by omega)]; exact v7 f hf, fun e he f2 hf2 => ?_, fun k hk e he => by rw [zi_cell _ _ (by omega)]; exact v9 k hk e he⟩
              have he' : e < pm P + 1 := he
              rw [zi_cell _ _ (by omega)]
              show _ = nI (if e = pm P then upA V f m' f2 else pE P e f2)
              by_cases q5 : e = pm P
              · rw [if_pos q5, q5]; exact hV6 f2 hf2
              · rw [if_neg q5]; exact v8 e (by omega) f2 hf2
      · rw [if_neg q3] at d1
        rw [if_neg q3, if_pos rfl, m_wrong d1 h54, Option.bind_some] at base
        rw [if_neg q3]
        refine ⟨fun t' V' e => (by cases e), fun t'' e => ?_⟩
        have e3 := Sum.inr.inj e
        subst e3
        have hD5 : mDf P N r (zi g4 42 5 (nI t2)) := mDf_mw (W := fun c k => c = 42 ∧ k = 5) (fun c k q => by omega) (mw_zi ⟨rfl, rfl⟩ _ _) hD4
        have hsp0 : nX11_spans (nI (pq P f - 1)) (zi g4 42 5 (nI t2)) = some (0, zi g4 42 5 (nI t2)) := by
          refine wh_out ?_
          unfold wX11_spans_4
          dsimp only
          rw [if_neg n01, if_neg (hne (t := t2) (by omega) (zi_at _ _ _ _))]
          rfl
        obtain ⟨y, h, k1, k2, k3, k4⟩ := m_edit_bad (a1 := nI (sn ||| 2 ^ f)) (t := t2) hO qf (by omega) hD5 hm ⟨wP45, fun c k w => by unfold wP45 at w; omega, mw_rfl _⟩ (zi_at _ _ _ _) hsp0
        rw [k1] at base
        rw [wh_in base]
        exact ⟨h, wh_out k2, k3, mw_tr (wP4_Rd m4) (mw_tr (mw_zi (Or.inl ⟨rfl, Or.inr ⟨by omega, by omega⟩⟩) _ _) k4)⟩
    · rw [if_neg q]
      refine ⟨fun t' V' e => (by cases e), fun t' e => ?_⟩
      have e1 := Sum.inr.inj e
      subst e1
      have : wX11_editLine_75 (nI sn, (1 : Int32), g) = some (.inr (zi g1 42 5 (nI t))) := by
        rw [base]
        by_cases q1 : told tn tb P t < pn P
        · have q2 : sn.testBit (told tn tb P t) = true := by
            cases h : sn.testBit (told tn tb P t) with
            | true => rfl
            | false => exact (q ⟨q1, h⟩).elim
          rw [if_pos q1, if_neg (fun e => by rw [nI_m1, nN_eqm (by omega)] at e; exact e), m_has (by omega) (by omega), Option.bind_some, q2, if_neg (show ¬ (if true = true then (1 : Int32) else 0) = 0 by decide), bad]
        · rw [if_neg q1, if_pos rfl, bad]
      exact ⟨_, wh_out this, zi_at _ _ _ _, mbad⟩
end Em
