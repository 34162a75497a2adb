
/-! ===== read: a field's line, the reference, the whole of it ===== -/
section Fq
variable {g h k : zS} {tn : Nat} {tb : Nat → Nat} {s p t : Nat} {P : zPl} {N : Nat} {r : Nat → Nat}
/-- as mw, but the longs of cell 44 may change -/
def mwl (W : Nat → Nat → Prop) (g h : zS) : Prop := (∀ c k, ¬ W c k → h.1 c k = g.1 c k) ∧ (∀ c, c ≠ 44 → h.2.1 c = g.2.1 c) ∧ h.2.2 = g.2.2
theorem mwl_mw {W : Nat → Nat → Prop} (a : mw W g h) : mwl W g h := ⟨a.1, fun c _ => by rw [a.2], by rw [a.2]⟩
theorem mwl_tr {W : Nat → Nat → Prop} (a : mwl W g h) (b : mwl W h k) : mwl W g k := ⟨fun c i q => (b.1 c i q).trans (a.1 c i q), fun c hc => (b.2.1 c hc).trans (a.2.1 c hc), b.2.2.trans a.2.2⟩
theorem mwl_zl {W : Nat → Nat → Prop} (g : zS) (n : Nat) (x : Int64) : mwl W g (zl g 44 n x) := ⟨fun _ _ _ => rfl, fun c hc => funext fun k => zl_else _ _ (fun e => hc e.1), rfl⟩
theorem mwl_le {V W : Nat → Nat → Prop} (q : ∀ c k, V c k → W c k) (a : mwl V g h) : mwl W g h := ⟨fun c k hk => a.1 c k (fun e => hk (q c k e)), a.2⟩
theorem bool_nar : vp_nar .boolean (1 : Int32) = 1 ∧ vp_nar .boolean (0 : Int32) = 0 := by decide
/-- behind a fault the rest of the line only runs through -/
theorem m_fd141x {n : Nat} (hn : n < 5) (h5 : g.1 42 5 ≠ -1) : ∃ h, jX11_fieldLine_141 (nI n) g = some h ∧ h.1 42 5 = g.1 42 5 ∧ mw wRd g h := by
  unfold jX11_fieldLine_141 nX11_digit
  rw [if_neg h5, Option.bind_some]
  dsimp only
  rw [zchk_t (zin_nI (by omega) (by omega)), nI_cl (by omega)]
  unfold nX11_takes_913
  rw [if_neg (by rw [zi_else _ _ (by omega)]; exact h5), Option.bind_some, if_pos rfl, zchk_t (zin_nI (by omega) (by omega))]
  exact ⟨_, rfl, by rw [zi_else _ _ (by omega), zi_else _ _ (by omega), zi_else _ _ (by omega)], mw_tr (mw_zi (Or.inr ⟨by omega, by omega⟩) _ _) (mw_tr (mw_zi (Or.inr ⟨by omega, by omega⟩) _ _) (mw_zi (Or.inl ⟨rfl, Or.inr ⟨by omega, by omega⟩⟩) _ _))⟩
theorem m_fieldLine (hO : pOK P) (hn : nmOK P) (hp : pn P < 5) (hm0 : pm P = 0) (hpg : pg P = 9) (hX : rdX tn tb s g) (hs : wd tn tb s = wdL 0) (h5 : g.1 42 5 = -1) (hD : mDf P 0 r g) : (∀ t' q w sc, fdR P tn tb (sk tn tb (te tn tb s)) = .inl (t', q, w, sc) → ∃ h p', nX11_fieldLine g = some h ∧ rdX tn tb p' h ∧ sk tn tb p' = t' ∧ h.1 42 5 = -1 ∧ mDf (wF P q w sc (wd tn tb (sk tn tb (te tn tb s)))) 0 r h ∧ mwl wRd g h) ∧ (∀ t', fdR P tn tb (sk tn tb (te tn tb s)) = .inr t' → ∃ h, nX11_fieldLine g = some h ∧ h.1 42 5 = nI t' ∧ mwl wRd g h) := by
  obtain ⟨x1, x2, x3⟩ := word_te (k := 0) (L := 5) rfl (by omega) hs
  have ht4 := hX.1.2.2.1
  have hne : ∀ {q : zS} {t : Nat}, t ≤ 400 → q.1 42 5 = nI t → ¬ q.1 42 5 = -1 := fun h0 h e => by rw [h, nI_m1, nN_eqm (by omega)] at e; exact e
  rw [x2]
  have zX : rdX tn tb (s + 5) (zi g 42 4 (nI (s + 5))) := rdX_mv hX x3
  have zm : mw wP4 g (zi g 42 4 (nI (s + 5))) := mw_zi ⟨rfl, rfl⟩ _ _
  obtain ⟨g1, w1, a1, a2⟩ := m_isName zX
  obtain ⟨t, et⟩ : ∃ t, t = sk tn tb (s + 5) := ⟨_, rfl⟩
  have hst : sk tn tb t = t := by rw [et]; exact sk_sk x3
  have htn : t ≤ tn := by rw [et]; exact (sk_le x3).2
  rw [← et] at w1 a1 ⊢
  have m1 : mw wP4 g g1 := mw_tr zm a2
  have D1 := mDf_mw (fun c k q => by unfold wP4 at q; omega) m1 hD
  have h51 : g1.1 42 5 = -1 := by rw [m1.1 42 5 (by unfold wP4; omega)]; exact h5
  have go : nX11_fieldLine g = (if (if isNm tn tb t = true then (1 : Int32) else 0) = 0 then (jX11_fieldLine_66 g1) else ((nX11_fieldHere g1).bind fun v13 => if v13.1 = (-1 : Int32) then (jX11_fieldLine_70 v13.2) else (jX11_fieldLine_66 v13.2))) := by
    unfold nX11_fieldLine jX11_fieldLine_32
    rw [hD.1, hD.2.1, hD.2.2.1, hD.2.2.2.1, hm0, hpg, if_neg (show ¬ nI (pn P) = (5 : Int32) from fun e => by have := (nN_eq (b := 5) (by omega) (by omega)).mp e; omega), if_neg (show ¬ (0 : Int32) < nI 0 + nI 0 by decide), if_pos (show gI 9 = -1 from rfl), if_pos h5, hX.2.1, show nI s + (5 : Int32) = nI (s + 5) from nN_add s 5, w1, Option.bind_some]
  have bad : ∀ y, rdX tn tb t y → y.1 42 5 = -1 → jX11_fieldLine_66 y = some (zi y 42 5 (nI t)) := fun y yX y5 => by
    unfold jX11_fieldLine_66 jX11_fieldLine_70
    rw [m_wrong yX y5, Option.bind_some, if_neg (hne (t := t) (by omega) (zi_at _ _ _ _))]
  have m5 : ∀ y, mw wP4 g y → mwl wRd g (zi y 42 5 (nI t)) := fun y ym => mwl_mw (mw_tr (wP4_Rd ym) (mw_zi (Or.inl ⟨rfl, Or.inr ⟨by omega, by omega⟩⟩) _ _))
  rw [go]
  unfold fdR
  by_cases q1 : isNm tn tb t = true
  · obtain ⟨n1, n2, n3⟩ := nm_te q1
    obtain ⟨g2, w2, b1, b2⟩ := m_fieldHere hO hn a1 D1
    rw [hst] at w2 b1
    have m2 : mw wP4 g g2 := mw_tr m1 b2
    have h52 : g2.1 42 5 = -1 := by rw [m2.1 42 5 (by unfold wP4; omega)]; exact h5
    have D2 := mDf_mw (fun c k q => by unfold wP4 at q; omega) m2 hD
    rw [if_pos q1, if_neg n01, w2, Option.bind_some]
    dsimp only
    by_cases q2 : told tn tb P t < pn P
    · rw [if_neg (fun e => e.2 q2), if_pos q2, if_neg (fun e => by rw [nI_m1, nN_eqm (by omega)] at e; exact e), bad g2 b1 h52]
      refine ⟨fun t' q w sc ee => (by cases ee), fun t' ee => ?_⟩
      cases ee
      exact ⟨_, rfl, zi_at _ _ _ _, m5 _ m2⟩
    · rw [if_pos ⟨q1, q2⟩, if_neg q2, if_pos rfl]
      obtain ⟨g3, w3, c1, c2⟩ := m_named b1 (by rw [hst]; exact (isNm_iff.mp q1).1.2)
      rw [hst] at w3 c1
      have D3 := mDf_mw (fun c k q => by unfold wP4 at q; omega) c2 D2
      have h53 : g3.1 42 5 = -1 := by rw [c2.1 42 5 (by unfold wP4; omega)]; exact h52
      obtain ⟨z, ez⟩ : ∃ z, z = zl g3 44 (pn P) (nL (nmL (wd tn tb t))) := ⟨_, rfl⟩
      have zX2 : rdX tn tb t z := by rw [ez]; exact c1
      have zD : mDf P 0 r z := by
        obtain ⟨d0, d1, d2, d3, d4, d5⟩ := D3
        rw [ez]
        exact ⟨d0, d1, d2, d3, fun f hf => by rw [zl_else _ _ (by omega)]; exact d4 f hf, d5⟩
      have zn : z.2.1 44 (pn P) = nL (nmL (wd tn tb t)) := by rw [ez]; exact zl_at _ _ _ _
      have zz : mwl wRd g z := mwl_tr (mwl_mw (wP4_Rd (mw_tr m2 c2))) (by rw [ez]; exact mwl_zl _ _ _)
      have z5 : z.1 42 5 = -1 := by rw [ez]; exact h53
      obtain ⟨g4, w4, d1, d2⟩ := m_wordSize zX2
      rw [hst] at w4 d1
      have hte : te tn tb t ≤ tn := (te_le htn).2.1
      have e4 : nI t + nI (rn tn tb isLt t) = nI (te tn tb t) := by rw [nN_add]; congr 1; omega
      obtain ⟨y, ey⟩ : ∃ y, y = zi g4 42 4 (nI (te tn tb t)) := ⟨_, rfl⟩
      have yX : rdX tn tb (te tn tb t) y := by rw [ey]; exact rdX_mv d1 hte
      have ym : mw wP4 z y := mw_tr d2 (by rw [ey]; exact mw_zi ⟨rfl, rfl⟩ _ _)
      obtain ⟨u, eu⟩ : ∃ u, u = sk tn tb (te tn tb t) := ⟨_, rfl⟩
      have hsu : sk tn tb u = u := by rw [eu]; exact sk_sk hte
      have hu : u ≤ tn := by rw [eu]; exact (sk_le hte).2
      obtain ⟨g6, w6, f1, f2⟩ := m_is_912 yX
      rw [← eu] at w6 f1 ⊢
      have ym6 : mw wP4 z g6 := mw_tr ym f2
      obtain ⟨v, ev⟩ : ∃ v, v = zi g6 47 (pn P) (nI (if wd tn tb u = wdL 2 then 1 else 0)) := ⟨_, rfl⟩
      have mv : mw (fun c _ => c = 47) g6 v := by rw [ev]; exact mw_zi (W := fun c _ => c = 47) rfl _ _
      have vX : rdX tn tb u v := ⟨rdT_mw (fun c k q => by omega) mv f1.1, by rw [mv.1 42 4 (by omega)]; exact f1.2.1, f1.2.2⟩
      have v5 : v.1 42 5 = -1 := by rw [mv.1 42 5 (by omega), ym6.1 42 5 (by unfold wP4; omega)]; exact z5
      have zv : mwl wRd g v := mwl_tr zz (mwl_mw (mw_tr (wP4_Rd ym6) (mw_le (fun c k q => by unfold wRd; omega) mv)))
      have vM : fdM P r tn tb t (if wd tn tb u = wdL 2 then 1 else 0) v := by
        obtain ⟨e0, e1, e2, e3, e4, e5, e6, e7, e8, e9⟩ := mDf_mw (fun c k q => by unfold wP4 at q; omega) ym6 zD
        refine ⟨⟨by rw [mv.1 42 6 (by omega)]; exact e0, by rw [mv.1 42 7 (by omega)]; exact e1, by rw [mv.1 42 8 (by omega)]; exact e2, by rw [mv.1 42 9 (by omega)]; exact e3, by rw [mv.2]; exact e4, fun f hf => by rw [mv.1 45 f (by omega)]; exact e5 f hf, fun f hf => by rw [mv.1 46 f (by omega)]; exact e6 f hf, fun f hf => by rw [ev, zi_else _ _ (by omega)]; exact e7 f hf, fun e he f hf => by rw [mv.1 48 _ (by omega)]; exact e8 e he f hf, fun k hk => by omega⟩, by rw [mv.2, ym6.2]; exact zn, by rw [ev, zi_at]⟩
      have go2 : jX11_fieldLine_70 g2 = (nX11_takes_912 v).bind fun v7 => if v7.1 = 0 then ((nX11_takes_911 v7.2).bind fun v11 => if v11.1 = 0 then ((nX11_wrong v11.2).bind fun v12 => jX11_fieldLine_141 (nI (pn P)) v12) else (jX11_fieldLine_141 (nI (pn P)) v11.2)) else (jX11_fieldLine_141 (nI (pn P)) v7.2) := by
        unfold jX11_fieldLine_70
        rw [if_pos h52, w3, Option.bind_some]
        dsimp only
        rw [D2.1, zchk_t (zin_nI (by omega) (by omega)), nI_cl (by omega), ← ez, w4, Option.bind_some]
        dsimp only
        rw [zX2.2.1, e4, ← ey, w6, Option.bind_some]
        dsimp only
        rw [zchk_t (zin_nI (by omega) (by omega))]
        rw [show zi g6 47 (pn P) (vp_nar .boolean (if wd tn tb u = wdL 2 then (1 : Int32) else 0)) = v from by
          rw [ev]
          by_cases q : wd tn tb u = wdL 2
          · rw [if_pos q, if_pos q, bool_nar.1]; rfl
          · rw [if_neg q, if_neg q, bool_nar.2]; rfl]
      rw [go2]
      obtain ⟨k1, _⟩ := m_takes_912 vX
      obtain ⟨g7, w7, i1, i2⟩ := k1 v5
      rw [hsu] at w7 i1
      have g75 : g7.1 42 5 = -1 := by rw [i2.1 42 5 (by unfold wP4; omega)]; exact v5
      have M7 := fdM_mw (fun c k q => by unfold wP4 at q; omega) i2 vM
      have zv7 : mwl wRd g g7 := mwl_tr zv (mwl_mw (wP4_Rd i2))
      by_cases q4 : wd tn tb u = wdL 2
      · have q3 : wd tn tb u ≠ wdL 1 := fun e => by rw [q4] at e; exact absurd e (by decide)
        obtain ⟨y1, y2, y3⟩ := word_te (k := 2) (L := 6) rfl (by omega) q4
        rw [if_pos q4] at i1 M7 w7
        rw [w7, Option.bind_some]
        dsimp only
        rw [if_neg n01, if_neg q3, if_pos q4, y2]
        obtain ⟨j1, j2⟩ := m_fd141 hp hm0 i1 M7 g75
        refine ⟨fun t' q w sc ee => ?_, fun t' ee => ?_⟩
        · obtain ⟨h, p', o1, o2, o3, o4, o5, o6⟩ := j1 t' q w sc ee
          exact ⟨h, p', o1, o2, o3, o4, o5, mwl_tr zv7 (mwl_mw o6)⟩
        · obtain ⟨h, o1, o2, o6⟩ := j2 t' ee
          exact ⟨h, o1, o2, mwl_tr zv7 (mwl_mw o6)⟩
      · rw [if_neg q4] at i1 M7 w7
        rw [w7, Option.bind_some]
        dsimp only
        rw [if_pos rfl, if_neg q4]
        obtain ⟨k2, _⟩ := m_takes_911 i1
        obtain ⟨g8, w8, l1, l2⟩ := k2 g75
        rw [hsu] at w8 l1
        have g85 : g8.1 42 5 = -1 := by rw [l2.1 42 5 (by unfold wP4; omega)]; exact g75
        have M8 := fdM_mw (fun c k q => by unfold wP4 at q; omega) l2 M7
        have zv8 : mwl wRd g g8 := mwl_tr zv7 (mwl_mw (wP4_Rd l2))
        by_cases q3 : wd tn tb u = wdL 1
        · obtain ⟨y1, y2, y3⟩ := word_te (k := 1) (L := 5) rfl (by omega) q3
          rw [if_pos q3] at l1 w8
          rw [w8, Option.bind_some]
          dsimp only
          rw [if_neg n01, if_pos q3, y2]
          obtain ⟨j1, j2⟩ := m_fd141 hp hm0 l1 M8 g85
          refine ⟨fun t' q w sc ee => ?_, fun t' ee => ?_⟩
          · obtain ⟨h, p', o1, o2, o3, o4, o5, o6⟩ := j1 t' q w sc ee
            exact ⟨h, p', o1, o2, o3, o4, o5, mwl_tr zv8 (mwl_mw o6)⟩
          · obtain ⟨h, o1, o2, o6⟩ := j2 t' ee
            exact ⟨h, o1, o2, mwl_tr zv8 (mwl_mw o6)⟩
        · rw [if_neg q3] at l1 w8
          rw [w8, Option.bind_some]
          dsimp only
          rw [if_pos rfl, if_neg q3, m_wrong l1 g85, Option.bind_some]
          refine ⟨fun t' q w sc ee => (by cases ee), fun t' ee => ?_⟩
          cases ee
          obtain ⟨h, o1, o2, o6⟩ := m_fd141x (g := zi g8 42 5 (nI u)) (n := pn P) hp (hne (t := u) (by omega) (zi_at _ _ _ _))
          exact ⟨h, o1, by rw [o2, zi_at], mwl_tr zv8 (mwl_tr (mwl_mw (mw_zi (Or.inl ⟨rfl, Or.inr ⟨by omega, by omega⟩⟩) _ _)) (mwl_mw o6))⟩
  · rw [if_neg q1, if_pos rfl, if_neg (fun e => q1 e.1), bad g1 a1 h51]
    refine ⟨fun t' q w sc ee => (by cases ee), fun t' ee => ?_⟩
    cases ee
    exact ⟨_, rfl, zi_at _ _ _ _, m5 _ m1⟩
end Fq
