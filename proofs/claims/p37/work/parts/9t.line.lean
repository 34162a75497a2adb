
/-! ===== read: one line, class and reference ===== -/
section Ln
variable {g h k : zS} {tn : Nat} {tb : Nat → Nat} {s p t : Nat} {P : zPl} {N : Nat} {r : Nat → Nat}
def wCl (c k : Nat) : Prop := wCr c k ∨ c = 15 ∨ (c = 19 ∧ k = 4)
/-- what a line changes in the class -/
def fC (g h : zS) : Prop := mw wCl g h ∧ (bt15 g → bt15 h)
theorem fC_rfl (g : zS) : fC g g := ⟨mw_rfl _, id⟩
theorem fC_tr (a : fC g h) (b : fC h k) : fC g k := ⟨mw_tr a.1 b.1, fun q => b.2 (a.2 q)⟩
theorem fC_Cr (a : mw wCr g h) : fC g h := ⟨mw_le (fun c k q => Or.inl q) a, bt15_mw wCr_15 a⟩
theorem fC_Cs (a : mw wCs g h ∧ (bt15 g → bt15 h)) : fC g h := ⟨mw_le (fun c k q => q.elim Or.inl (fun e => Or.inr (Or.inl e))) a.1, a.2⟩
theorem fC_4 (a : mw (fun c k => c = 19 ∧ k = 4) g h) : fC g h := ⟨mw_le (fun c k q => Or.inr (Or.inr q)) a, bt15_mw (fun c k q => by omega) a⟩
/-- the class's mark: a line of another kind has come -/
def flg (P : zPl) (N : Nat) (g : zS) : Prop := g.1 19 4 = 0 ↔ (pm P = 0 ∧ N = 0 ∧ pg P = 9)
theorem gI_9 {x : Nat} (h : x ≤ 9) : gI x = -1 ↔ x = 9 := by
  unfold gI
  by_cases c : x = 9
  · rw [if_pos c]; exact ⟨fun _ => c, fun _ => rfl⟩
  · rw [if_neg c]
    exact ⟨fun e => by rw [nI_m1, nN_eqm (by omega)] at e; exact e.elim, fun e => absurd e c⟩
theorem pg_le (hO : pOK P) : pg P ≤ 9 := by
  have h5 := hO.1
  rcases hO.2.2.2.2.2.1 with q | q <;> omega
theorem wrong_x (h5 : g.1 42 5 ≠ -1) : nX11_wrong g = some g := by
  unfold nX11_wrong
  rw [if_neg h5]
theorem field32_x (h5 : g.1 42 5 ≠ -1) : jX11_fieldLine_32 g = some g := by
  unfold jX11_fieldLine_32
  rw [if_neg h5]
theorem groupLine_x (h5 : g.1 42 5 ≠ -1) : nX11_groupLine g = some g := by
  have e : jX11_groupLine_12 g = some g := by
    unfold jX11_groupLine_12
    rw [if_neg h5]
  unfold nX11_groupLine
  rw [wrong_x h5, Option.bind_some, e]
  split <;> rfl
theorem editLine_x (h5 : g.1 42 5 ≠ -1) : nX11_editLine g = some g := by
  have e : jX11_editLine_13 g = some g := by
    unfold jX11_editLine_13
    rw [if_neg h5]
  unfold nX11_editLine
  rw [wrong_x h5, Option.bind_some, e]
  split <;> rfl
theorem rowLine_x (h5 : g.1 42 5 ≠ -1) : nX11_rowLine g = some g := by
  have e : jX11_rowLine_13 g = some g := by
    unfold jX11_rowLine_13
    rw [if_neg h5]
  unfold nX11_rowLine
  rw [wrong_x h5, Option.bind_some, e]
  split <;> rfl
theorem flt_ne (ht : t ≤ 400) (h : g.1 42 5 = nI t) : ¬ g.1 42 5 = -1 := fun e => by
  rw [h, nI_m1, nN_eqm (by omega)] at e
  exact e
theorem m_fieldBad (hO : pOK P) (hN : N ≤ 40) (hX : rdX tn tb s g) (h5 : g.1 42 5 = -1) (hD : mDf P N r g) (hb : pn P = 5 ∨ ¬ (pm P = 0 ∧ N = 0 ∧ pg P = 9)) : nX11_fieldLine g = some (zi g 42 5 (nI s)) := by
  have hp5 := hO.1
  have hm6 := hO.2.2.2.1
  have ht := hX.1.2.2.1
  have hs := hX.2.2.1
  have e28 : jX11_fieldLine_28 g = some (zi g 42 5 (nI s)) := by
    unfold jX11_fieldLine_28
    rw [m_wrong hX h5, Option.bind_some, field32_x (flt_ne (t := s) (by omega) (zi_at _ _ _ _))]
  unfold nX11_fieldLine
  rw [hD.1, hD.2.1, hD.2.2.1, hD.2.2.2.1]
  by_cases c1 : pn P = 5
  · rw [if_pos (by rw [c1]; rfl), e28]
  · rw [if_neg (show ¬ nI (pn P) = (5 : Int32) from fun e => c1 ((nN_eq (b := 5) (by omega) (by omega)).mp e)), nN_add]
    by_cases c2 : 0 < pm P + N
    · rw [if_pos (show (0 : Int32) < nI (pm P + N) from (nN_lt (a := 0) (by omega) (by omega)).mpr c2), e28]
    · rw [if_neg (show ¬ (0 : Int32) < nI (pm P + N) from fun e => c2 ((nN_lt (a := 0) (by omega) (by omega)).mp e)), if_neg (fun e => by
        have := (gI_9 (pg_le hO)).mp e
        omega), e28]
theorem m_groupBad (hO : pOK P) (hX : rdX tn tb s g) (h5 : g.1 42 5 = -1) (hD : mDf P N r g) (hb : pg P ≠ 9) : nX11_groupLine g = some (zi g 42 5 (nI s)) := by
  have ht := hX.1.2.2.1
  have hs := hX.2.2.1
  unfold nX11_groupLine jX11_groupLine_12
  rw [hD.2.2.2.1, if_neg (fun e => hb ((gI_9 (pg_le hO)).mp e)), m_wrong hX h5, Option.bind_some, if_neg (flt_ne (t := s) (by omega) (zi_at _ _ _ _))]
theorem m_editBad (hX : rdX tn tb s g) (h5 : g.1 42 5 = -1) (hD : mDf P N r g) (hb : pm P = 6) : nX11_editLine g = some (zi g 42 5 (nI s)) := by
  have ht := hX.1.2.2.1
  have hs := hX.2.2.1
  unfold nX11_editLine jX11_editLine_13
  rw [hD.2.1, hb, if_pos (show nI 6 = (6 : Int32) from rfl), m_wrong hX h5, Option.bind_some, if_neg (flt_ne (t := s) (by omega) (zi_at _ _ _ _))]
theorem m_rowBad (hX : rdX tn tb s g) (h5 : g.1 42 5 = -1) (hD : mDf P N r g) (hb : N = 40) : nX11_rowLine g = some (zi g 42 5 (nI s)) := by
  have ht := hX.1.2.2.1
  have hs := hX.2.2.1
  unfold nX11_rowLine jX11_rowLine_13
  rw [hD.2.2.1, hb, if_pos (show nI 40 = (40 : Int32) from rfl), m_wrong hX h5, Option.bind_some, if_neg (flt_ne (t := s) (by omega) (zi_at _ _ _ _))]
/-- the reference's line by its first word -/
noncomputable def lnX (tn : Nat) (tb : Nat → Nat) (s : Nat) (k : zS) : Option zS := if wd tn tb s = wdL 0 then nX11_fieldLine k else if wd tn tb s = wdL 4 then nX11_groupLine k else if wd tn tb s = wdL 5 then nX11_editLine k else if wd tn tb s = wdL 8 then nX11_rowLine k else nX11_wrong k
theorem lnX_x (h5 : g.1 42 5 ≠ -1) (hw : wd tn tb s ≠ wdL 0) : lnX tn tb s g = some g := by
  unfold lnX
  rw [if_neg hw, groupLine_x h5, editLine_x h5, rowLine_x h5, wrong_x h5]
  split
  · rfl
  · split
    · rfl
    · split <;> rfl
theorem m_79 (hs : sk tn tb s = s) (hX : rdX tn tb s g) : ∃ k, rdX tn tb s k ∧ mw wP4 g k ∧ jX11_read_79 g = (lnX tn tb s k).bind jX11_read_147 := by
  obtain ⟨g1, w1, a1, b1⟩ := m_is_910 hX
  rw [hs] at w1 a1
  unfold jX11_read_79
  rw [w1, Option.bind_some]
  by_cases q0 : wd tn tb s = wdL 0
  · rw [if_pos q0, if_neg n01]
    exact ⟨g1, a1, b1, by unfold lnX; rw [if_pos q0]⟩
  · rw [if_neg q0, if_pos rfl]
    obtain ⟨g2, w2, a2, b2⟩ := m_is_914 a1
    rw [hs] at w2 a2
    rw [w2, Option.bind_some]
    by_cases q4 : wd tn tb s = wdL 4
    · rw [if_pos q4, if_neg n01]
      exact ⟨g2, a2, mw_tr b1 b2, by unfold lnX; rw [if_neg q0, if_pos q4]⟩
    · rw [if_neg q4, if_pos rfl]
      obtain ⟨g3, w3, a3, b3⟩ := m_is_915 a2
      rw [hs] at w3 a3
      rw [w3, Option.bind_some]
      by_cases q5 : wd tn tb s = wdL 5
      · rw [if_pos q5, if_neg n01]
        exact ⟨g3, a3, mw_tr b1 (mw_tr b2 b3), by unfold lnX; rw [if_neg q0, if_neg q4, if_pos q5]⟩
      · rw [if_neg q5, if_pos rfl]
        obtain ⟨g4, w4, a4, b4⟩ := m_is_918 a3
        rw [hs] at w4 a4
        rw [w4, Option.bind_some]
        by_cases q8 : wd tn tb s = wdL 8
        · rw [if_pos q8, if_neg n01]
          exact ⟨g4, a4, mw_tr b1 (mw_tr b2 (mw_tr b3 b4)), by unfold lnX; rw [if_neg q0, if_neg q4, if_neg q5, if_pos q8]⟩
        · rw [if_neg q8, if_pos rfl]
          exact ⟨g4, a4, mw_tr b1 (mw_tr b2 (mw_tr b3 b4)), by unfold lnX; rw [if_neg q0, if_neg q4, if_neg q5, if_neg q8]⟩
/-- a line of the reference begins -/
theorem m_step (hs : sk tn tb p = s) (hst : s < tn) (hX : rdX tn tb p g) (h5 : g.1 42 5 = -1) (hO : pOK P) (hD : mDf P N r g) : (¬ (pn P = 0 ∧ wd tn tb s ≠ wdL 0) → ∃ k, rdX tn tb s k ∧ mw wP4 g k ∧ wX11_read_43 g = (lnX tn tb s k).bind jX11_read_147) ∧ ((pn P = 0 ∧ wd tn tb s ≠ wdL 0) → ∃ k, k.1 42 5 = nI s ∧ mw wRd g k ∧ wX11_read_43 g = jX11_read_147 k) := by
  have hp5 := hO.1
  obtain ⟨g1, w1, a1, b1⟩ := m_here hX
  rw [hs] at w1 a1
  have ht := hX.1.2.2
  have hss : sk tn tb s = s := by rw [← hs]; exact sk_sk hX.2.2.1
  have h51 : g1.1 42 5 = -1 := by rw [b1.1 42 5 (by unfold wP4; omega)]; exact h5
  have D1 := mDf_mw (fun c k q => by unfold wP4 at q; omega) b1 hD
  have hne : ¬ chr tn tb s = -1 := fun e => by
    have := ht.2 _ hst
    rw [chr_in hst, nI_m1, nN_eqm (by omega)] at e
    exact e
  unfold wX11_read_43
  rw [if_pos h5, w1, Option.bind_some]
  dsimp only
  rw [if_neg hne, D1.1]
  constructor
  · intro q
    by_cases c : pn P = 0
    · have q0 : wd tn tb s = wdL 0 := Classical.byContradiction fun e => q ⟨c, e⟩
      rw [if_pos (by rw [c]; rfl)]
      obtain ⟨g2, w2, a2, b2⟩ := m_is_910 a1
      rw [hss] at w2 a2
      rw [w2, Option.bind_some, if_pos q0, if_neg n01]
      obtain ⟨k, x1, x2, x3⟩ := m_79 hss a2
      exact ⟨k, x1, mw_tr b1 (mw_tr b2 x2), x3⟩
    · rw [if_neg (fun e => c ((nN_eq0 (by omega)).mp e))]
      obtain ⟨k, x1, x2, x3⟩ := m_79 hss a1
      exact ⟨k, x1, mw_tr b1 x2, x3⟩
  · intro ⟨c, q⟩
    rw [if_pos (by rw [c]; rfl)]
    obtain ⟨g2, w2, a2, b2⟩ := m_is_910 a1
    rw [hss] at w2 a2
    have h52 : g2.1 42 5 = -1 := by rw [b2.1 42 5 (by unfold wP4; omega)]; exact h51
    rw [w2, Option.bind_some, if_neg q, if_pos rfl, m_wrong a2 h52, Option.bind_some]
    obtain ⟨k, x1, x2, x3⟩ := m_79 hss (rdX_5 (x := nI s) a2)
    have hk : k.1 42 5 = nI s := by rw [x2.1 42 5 (by unfold wP4; omega), zi_at]
    rw [x3, lnX_x (flt_ne (t := s) (by omega) hk) q]
    exact ⟨k, hk, mw_tr (wP4_Rd b1) (mw_tr (wP4_Rd b2) (mw_tr (mw_zi (Or.inl ⟨rfl, Or.inr ⟨by omega, by omega⟩⟩) _ _) (wP4_Rd x2))), rfl⟩
theorem m_must59 (hX : rdX tn tb p g) (h5 : g.1 42 5 = -1) : (chr tn tb (sk tn tb p) = 59 → ∃ h, jX11_read_147 g = some (.inl h) ∧ rdX tn tb (sk tn tb p + 1) h ∧ mw wP4 g h) ∧ (chr tn tb (sk tn tb p) ≠ 59 → ∃ h, jX11_read_147 g = some (.inl h) ∧ h.1 42 5 = nI (sk tn tb p) ∧ mw wRd g h) := by
  obtain ⟨g1, w1, a1, b1⟩ := m_here hX
  have h51 : g1.1 42 5 = -1 := by rw [b1.1 42 5 (by unfold wP4; omega)]; exact h5
  unfold jX11_read_147 nX11_must
  rw [if_pos h5, w1, Option.bind_some]
  dsimp only
  constructor
  · intro q
    have hin : sk tn tb p < tn := (te_sign (x := 59) hX.1.2.2.2 (by omega) (by decide) (by decide) q).1
    rw [if_pos q, Option.bind_some, a1.2.1, nI_s]
    exact ⟨_, rfl, rdX_mv a1 hin, mw_tr b1 (mw_zi ⟨rfl, rfl⟩ _ _)⟩
  · intro q
    rw [if_neg q, m_wrong a1 h51, Option.bind_some]
    exact ⟨_, rfl, zi_at _ _ _ _, mw_tr (wP4_Rd b1) (mw_zi (Or.inl ⟨rfl, Or.inr ⟨by omega, by omega⟩⟩) _ _)⟩
theorem m_must_x (h5 : g.1 42 5 ≠ -1) : jX11_read_147 g = some (.inl g) := by
  unfold jX11_read_147 nX11_must
  rw [if_neg h5, Option.bind_some]
end Ln
