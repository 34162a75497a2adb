
/-! ===== steps: mendAll, trial ===== -/
section S16
variable {S S' : zSt} {g h k : zS} {P : zPl} {N K : Nat} {r : Nat → Nat} {hN : Nat → Nat} {hr : Nat → Nat → Nat}
/-- the rows after mendAll; how many it mends -/
def wRo (P : zPl) (r : Nat → Nat) (N w k : Nat) : Nat := if mdd P r N k w = 99999 then r k else mdd P r N k w
def wB (P : zPl) (r : Nat → Nat) (N w k : Nat) : Bool := !rgt P (r k) && decide (mdd P r N k w ≠ 99999)
theorem mdd_rgt {k w : Nat} (h : rgt P (r k) = true) : mdd P r N k w = r k := by unfold mdd; rw [if_pos h]
theorem wRo_ok (hO : pOK P) {k w : Nat} (hk : k < N) (hr : ∀ k, k < N → rOK P (r k)) : rOK P (wRo P r N w k) := by
  unfold wRo
  by_cases q : mdd P r N k w = 99999
  · rw [if_pos q]; exact hr k hk
  · rw [if_neg q]; exact (mdd_ok hO hk hr q).1
theorem wRo_no {k w : Nat} (h : wB P r N w k = false) : wRo P r N w k = r k := by
  unfold wB at h
  unfold wRo
  rw [Bool.and_eq_false_iff, Bool.not_eq_false', decide_eq_false_iff_not, Decidable.not_not] at h
  by_cases q : mdd P r N k w = 99999
  · rw [if_pos q]
  · rw [if_neg q]; exact mdd_rgt (h.resolve_right q)
def kAs (c : Nat) : Bool := (decide (34 ≤ c) && decide (c ≤ 36)) || c == 40
theorem kDn_As (a : fr kDn g h) : fr kAs g h := fr_le (fun c hc => by unfold kAs at hc; rw [Bool.or_eq_false_iff] at hc; exact hc.1) a
theorem kAs_Q : ∀ c, (kQ c && kN c) = false → kAs c = false := fun c hc => by
  unfold kQ kN at hc
  unfold kAs
  simp only [Bool.and_eq_false_iff, Bool.or_eq_false_iff, beq_eq_false_iff_ne, decide_eq_false_iff_not] at hc ⊢
  omega
theorem e_mendAside (hO : pOK P) (hP : cP P g) (hE : cE P g) (hC : N ≠ 0 → cC P g) (hL : cL P g) (hR : rR P N r g) {w : Nat} (hw : w ≤ 2) : ∃ o : Int32 × zS, nX10_mendAside (nI w) g = some o ∧ (o.1 = nI (cnt (wB P r N w) N) ∧ fr kAs g o.2 ∧ ∀ k, k < N → o.2.1 40 k = nI (wRo P r N w k)) := by
  have h40 := hR.2.1
  unfold nX10_mendAside
  refine wh_up (fun i (s : Int32 × Int32 × zS) => s.1 = nI (cnt (wB P r N w) i) ∧ s.2.1 = nI i ∧ fr kAs g s.2.2 ∧ ∀ k, k < i → s.2.2.1 40 k = nI (wRo P r N w k)) (fun o : Int32 × zS => o.1 = nI (cnt (wB P r N w) N) ∧ fr kAs g o.2 ∧ ∀ k, k < N → o.2.1 40 k = nI (wRo P r N w k)) N ?_ ?_ ⟨rfl, rfl, fr_rfl _ _, fun k hk => by omega⟩
  · intro i s hi ⟨a1, a2, a3, a4⟩
    have hP2 := cP_fr (K := kAs) ⟨rfl, rfl, rfl, rfl, rfl, rfl, rfl⟩ a3 hP
    have hE2 := cE_fr (K := kAs) rfl a3 hE
    have hC2 := cC_fr (K := kAs) rfl a3 (hC (by omega))
    have hL2 := cL_fr (K := kAs) rfl a3 hL
    have hR2 := rR_fr (K := kAs) ⟨rfl, rfl⟩ a3 hR
    obtain ⟨k, wm, b1⟩ := e_mended hO hP2 hE2 hC2 hL2 hR2 hi hw
    have b2 := fr_tr a3 (kDn_As b1)
    have hP3 := cP_fr (K := kAs) ⟨rfl, rfl, rfl, rfl, rfl, rfl, rfl⟩ b2 hP
    have hE3 := cE_fr (K := kAs) rfl b2 hE
    have hri := (hR.2.2 i hi).2
    have hok := mdd_ok (way := w) hO hi (fun k hk => (hR.2.2 k hk).2)
    have fin : ∀ (x : Int32) (c : Nat), x = nI (wRo P r N w i) → c = cnt (wB P r N w) (i + 1) → ∃ s' : Int32 × Int32 × zS, zchk (zin (nI i) 40) (some ((.inl (nI c, (nI i + (1 : Int32)), (zi k 40 i x)) : (Int32 × Int32 × zS) ⊕ (Int32 × zS)))) = some (.inl s') ∧ s'.1 = nI (cnt (wB P r N w) (i + 1)) ∧ s'.2.1 = nI (i + 1) ∧ fr kAs g s'.2.2 ∧ ∀ k, k < i + 1 → s'.2.2.1 40 k = nI (wRo P r N w k) := fun x c hx hc => by
      rw [zchk_t (zin_nI (by omega) (by omega))]
      refine ⟨_, rfl, by rw [hc], nI_s i, fr_tr b2 (fr_zi rfl _ _ _), fun j hj => ?_⟩
      by_cases q : j = i
      · rw [q, zi_at, hx]
      · rw [zi_else _ _ (by omega), (b1.1 40 rfl).1]
        exact a4 j (by omega)
    have hcs : cnt (wB P r N w) (i + 1) = if wB P r N w i then cnt (wB P r N w) i + 1 else cnt (wB P r N w) i := cnt_s _ _
    unfold wX10_mendAside_4
    rw [a1, a2, hR2.1, if_neg (fun q => by rw [nN_le (by omega) (by omega)] at q; omega), zchk_t (zin_nI (by omega) (by omega)), wm, Option.bind_some]
    dsimp only
    unfold jX10_mendAside_58
    rw [nI_cl (by omega), (hR2.2.2 i hi).1]
    by_cases q : mdd P r N i w = 99999
    · have e : mI (mdd P r N i w) = -1 := if_pos q
      have eb : wB P r N w i = false := by unfold wB; rw [Bool.and_eq_false_iff]; exact Or.inr (decide_eq_false (fun e => e q))
      rw [e, if_pos rfl, if_pos rfl]
      exact fin _ _ (by unfold wRo; rw [if_pos q]) (by rw [hcs, eb, if_neg (by decide)])
    · have om := (hok q).1.1
      have e : mI (mdd P r N i w) = nI (mdd P r N i w) := if_neg q
      have en : ¬ nI (mdd P r N i w) = -1 := fun q => by rw [nI_m1, nN_eqm (by omega)] at q; exact q
      have ex : nI (mdd P r N i w) = nI (wRo P r N w i) := by unfold wRo; rw [if_neg q]
      rw [e, if_neg en, if_neg en, e_isRight hO hP3 hE3 hri, Option.bind_some]
      cases hb : rgt P (r i) with
      | true =>
        have eb : wB P r N w i = false := by unfold wB; rw [hb]; rfl
        rw [if_neg (show ¬ (if true = true then (1 : Int32) else 0) = 0 by decide), if_neg en]
        exact fin _ _ ex (by rw [hcs, eb, if_neg (by decide)])
      | false =>
        have eb : wB P r N w i = true := by unfold wB; rw [hb, decide_eq_true q]; rfl
        rw [if_pos (show (if false = true then (1 : Int32) else 0) = 0 by decide), nI_s]
        exact fin _ _ ex (by rw [hcs, eb, if_pos rfl])
  · intro s ⟨a1, a2, a3, a4⟩
    have hR2 := rR_fr (K := kAs) ⟨rfl, rfl⟩ a3 hR
    unfold wX10_mendAside_4
    rw [a2, hR2.1, if_pos (Int32.le_refl _)]
    exact ⟨_, rfl, a1, a3, a4⟩
/-- what the reference wants -/
def mWt (P : zPl) (r : Nat → Nat) (N w k : Nat) : Int32 := if wB P r N w k then nI (fno (fun f => rv (mdd P r N k w) f - 1) (pn P)) else -1
theorem m_laysWanted (hO : pOK P) (hM : mP P g) (hF : mF P g) (hR : mR P N r g) {w : Nat} (hw : w ≤ 2) : ∃ k, nX11_laysWanted (nI w) g = some k ∧ (sc g k ∧ k.1 42 0 = g.1 42 0 ∧ ∀ j, j < N → k.1 69 j = mWt P r N w j) := by
  have h40 := hR.2.1
  unfold nX11_laysWanted
  refine wh_up (fun i (s : Int32 × zS) => s.1 = nI i ∧ sc g s.2 ∧ s.2.1 42 0 = g.1 42 0 ∧ ∀ j, j < i → s.2.1 69 j = mWt P r N w j) (fun k => sc g k ∧ k.1 42 0 = g.1 42 0 ∧ ∀ j, j < N → k.1 69 j = mWt P r N w j) N ?_ ?_ ⟨rfl, sc_rfl _, rfl, fun j hj => by omega⟩
  · intro i s hi ⟨a1, a2, a3, a4⟩
    have hM2 := mP_sc a2 hM
    have hF2 := mF_sc a2 hF
    have hR2 := mR_sc a2 hR
    unfold wX11_laysWanted_2
    rw [a1, hR2.1, if_neg (fun q => by rw [nN_le (by omega) (by omega)] at q; omega), m_passesRow hO hM2 hF2 hR2 hi, Option.bind_some]
    cases hb : rgt P (r i) with
    | true =>
      have eb : wB P r N w i = false := by unfold wB; rw [hb]; rfl
      rw [if_neg (show ¬ (if true = true then (1 : Int32) else 0) = 0 by decide), zchk_t (zin_nI (by omega) (by omega)), nI_cl (by omega)]
      refine ⟨_, rfl, nI_s i, sc_tr a2 (sc_zi rfl _ _), by rw [zi_else _ _ (by omega)]; exact a3, fun j hj => ?_⟩
      by_cases q : j = i
      · rw [q, zi_at]; unfold mWt; rw [eb, if_neg (by decide)]
      · rw [zi_else _ _ (by omega)]; exact a4 j (by omega)
    | false =>
      rw [if_pos (show (if false = true then (1 : Int32) else 0) = 0 by decide)]
      obtain ⟨k, wm, b1, b2⟩ := m_mended hO hM2 hF2 hR2 hi hw
      have b3 := mended69 wm
      rw [wm, Option.bind_some, zchk_t (zin_nI (by omega) (by omega)), nI_cl (by omega)]
      refine ⟨_, rfl, nI_s i, sc_tr a2 (sc_tr b1 (sc_zi rfl _ _)), by rw [zi_else _ _ (by omega)]; exact b2.trans a3, fun j hj => ?_⟩
      by_cases q : j = i
      · rw [q, zi_at]
        unfold mWt wB mmI
        rw [hb]
        by_cases q2 : mdd P r N i w = 99999
        · rw [if_pos q2, decide_eq_false (fun e => e q2), if_neg (by decide)]
        · rw [if_neg q2, decide_eq_true q2, if_pos (by decide)]
      · rw [zi_else _ _ (by omega)]
        dsimp only at b3
        rw [b3]
        exact a4 j (by omega)
  · intro s ⟨a1, a2, a3, a4⟩
    have hR2 := mR_sc a2 hR
    unfold wX11_laysWanted_2
    rw [a1, hR2.1, if_pos (Int32.le_refl _)]
    exact ⟨_, rfl, a2, a3, a4⟩
theorem mWt_no {i w : Nat} (h : wB P r N w i = false) : mWt P r N w i = -1 := by unfold mWt; rw [h, if_neg (by decide)]
theorem mWt_yes (hO : pOK P) {i w : Nat} (hi : i < N) (hr : ∀ k, k < N → rOK P (r k)) (h : wB P r N w i = true) : mWt P r N w i = nI (fno (fun f => rv (wRo P r N w i) f - 1) (pn P)) ∧ mWt P r N w i ≠ -1 ∧ rOK P (wRo P r N w i) ∧ (∀ f, f < pn P → rv (wRo P r N w i) f ≠ 0) := by
  have h5 := hO.1
  have q : mdd P r N i w ≠ 99999 := by
    unfold wB at h
    rw [Bool.and_eq_true, decide_eq_true_eq] at h
    exact h.2
  obtain ⟨o1, o2⟩ := mdd_ok hO hi hr q
  have e : wRo P r N w i = mdd P r N i w := if_neg q
  have e2 : mWt P r N w i = nI (fno (fun f => rv (mdd P r N i w) f - 1) (pn P)) := if_pos h
  have hlt := (vo_fno (a := fun f => rv (mdd P r N i w) f - 1) h5 (fun e he => by have := o1.2.1 e he; have := (hO.2.1 e he).2.1; omega)).1
  rw [e, e2]
  exact ⟨rfl, fun q => by rw [nI_m1, nN_eqm (by omega)] at q; exact q, o1, o2⟩
theorem m_mendAll38 (hO : pOK P) (hM : mP P g) (hR : mR P N r g) (hH : mH P K hN hr g) {w : Nat} (h69 : ∀ j, j < N → g.1 69 j = mWt P r N w j) (h0 : g.1 42 0 = 0) : ∃ o : Int32 × zS, wh (wX11_mendAll_38 ) ((0 : Int32), (0 : Int32), g) = some o ∧ (o.1 = nI (cnt (wB P r N w) N) ∧ mR P N (wRo P r N w) o.2 ∧ mH P K hN hr o.2 ∧ o.2.1 42 0 = 0 ∧ mw (fun c _ => c = 55) g o.2) := by
  have h40 := hR.2.1
  have hro : ∀ k, k < N → rOK P (r k) := fun k hk => (hR.2.2 k hk).2
  refine wh_up (fun i (s : Int32 × Int32 × zS) => s.1 = nI (cnt (wB P r N w) i) ∧ s.2.1 = nI i ∧ mR P N (fun j => if j < i then wRo P r N w j else r j) s.2.2 ∧ mw (fun c _ => c = 55) g s.2.2) (fun o : Int32 × zS => o.1 = nI (cnt (wB P r N w) N) ∧ mR P N (wRo P r N w) o.2 ∧ mH P K hN hr o.2 ∧ o.2.1 42 0 = 0 ∧ mw (fun c _ => c = 55) g o.2) N ?_ ?_ ⟨rfl, rfl, ⟨hR.1, hR.2.1, fun j hj => by dsimp only; rw [if_neg (by omega)]; exact hR.2.2 j hj⟩, mw_rfl _⟩
  · intro i s hi ⟨a1, a2, a3, a4⟩
    have hMs := (mPn_mw (P := P) (W := fun c _ => c = 55) (g := g) (h := s.2.2) (fun c k q => by omega) a4)
    have hM2 : mP P s.2.2 := by
      unfold mP at hM ⊢
      rw [a4.1 42 16 (by omega), a4.1 42 17 (by omega), a4.1 42 19 (by omega), show s.2.2.1 51 = g.1 51 from funext fun k => a4.1 51 k (by omega), show s.2.2.1 52 = g.1 52 from funext fun k => a4.1 52 k (by omega), show s.2.2.1 53 = g.1 53 from funext fun k => a4.1 53 k (by omega), show s.2.2.1 54 = g.1 54 from funext fun k => a4.1 54 k (by omega), show s.2.2.1 58 = g.1 58 from funext fun k => a4.1 58 k (by omega)]
      exact hM
    have hcs : cnt (wB P r N w) (i + 1) = if wB P r N w i then cnt (wB P r N w) i + 1 else cnt (wB P r N w) i := cnt_s _ _
    have cng : ∀ {r1 r2 : Nat → Nat} {z : zS}, (∀ j, j < N → r1 j = r2 j) → mR P N r1 z → mR P N r2 z := fun {r1 r2 z} he p => ⟨p.1, p.2.1, fun j hj => by rw [← he j hj]; exact p.2.2 j hj⟩
    unfold wX11_mendAll_38
    rw [a1, a2, a3.1, if_neg (fun q => by rw [nN_le (by omega) (by omega)] at q; omega), zchk_t (zin_nI (by omega) (by omega)), nI_cl (by omega), a4.1 69 i (by omega), h69 i hi]
    cases hb : wB P r N w i with
    | false =>
      rw [if_pos (mWt_no hb)]
      refine ⟨_, rfl, by rw [hcs, hb, if_neg (by decide)], nI_s i, cng (fun j hj => ?_) a3, a4⟩
      by_cases q : j = i
      · rw [if_neg (by omega), if_pos (by omega), q, wRo_no hb]
      · by_cases q2 : j < i
        · rw [if_pos q2, if_pos (by omega)]
        · rw [if_neg q2, if_neg (by omega)]
    | true =>
      obtain ⟨y1, y2, y3, y4⟩ := mWt_yes hO hi hro hb
      obtain ⟨k, wb, b1, b2⟩ := m_becomes hO hM2 a3 hi y3 y4
      rw [if_neg y2, zchk_t (zin_nI (by omega) (by omega)), y1, wb, Option.bind_some, nI_s]
      refine ⟨_, rfl, by rw [hcs, hb, if_pos rfl], nI_s i, cng (fun j hj => ?_) b1, mw_tr a4 b2⟩
      show (if j = i then _ else if j < i then _ else _) = _
      by_cases q : j = i
      · rw [if_pos q, if_pos (by omega), q]
      · rw [if_neg q]
        by_cases q2 : j < i
        · rw [if_pos q2, if_pos (by omega)]
        · rw [if_neg q2, if_neg (by omega)]
  · intro s ⟨a1, a2, a3, a4⟩
    unfold wX11_mendAll_38
    rw [a1, a2, a3.1, if_pos (Int32.le_refl _)]
    refine ⟨_, rfl, rfl, ⟨a3.1, a3.2.1, fun j hj => ?_⟩, mH_mw (fun c k q => by omega) a4 hH, by rw [a4.1 42 0 (by omega)]; exact h0, a4⟩
    have := a3.2.2 j hj
    dsimp only at this
    rw [if_pos hj] at this
    exact this
theorem s_33 (a : Nat → Int32) (hv : Iv g) : ∃ r, nS_33 a g = some r ∧ Iv r := by
  obtain ⟨S, hc, hm⟩ := hv
  obtain ⟨hO, ⟨hP, hE, hC0, hL, h6, hG⟩, ⟨hR, hH, hz⟩, hT, hWr, hFl, hB⟩ := id hc
  have h40 := hR.2.1
  have hro : ∀ k, k < S.2.1.1 → rOK S.1 (S.2.1.2.1 k) := fun k hk => (hR.2.2 k hk).2
  unfold nS_33
  rcases ix2 (a 1) (n := 3) (by omega) with ⟨w, hw, e1⟩ | hno
  · rw [e1]
    refine st_v (S := S) (S' := (S.1, Hm S.2.1 S.2.1.1 (wRo S.1 S.2.1.2.1 S.2.1.1 w), S.2.2)) (L := nL_mendAll (nI w)) (M := nX11_mendAll (nI w)) (cd := 0) (an := nI (cnt (wB S.1 S.2.1.2.1 S.2.1.1 w) S.2.1.1)) hm ?_ (fun h hm2 => ?_)
    · obtain ⟨o, wa, a1, a2, a3⟩ := e_mendAside hO hP hE (fun q => hC0 (fun e => q (hz e).1)) hL hR (show w ≤ 2 by omega)
      have hc1 : cI S o.2 := cI_fr (K := fun c => kQ c && kN c) (fun c hc => by rw [hc, Bool.false_and]) (fr_le kAs_Q a2) hc
      obtain ⟨k, wk, b1, b2, b3, b4⟩ := cI_rmd hc1
      have b5 : fr kRw o.2 (zcpy k 40 32 (nI 0) (nI 0) (nI S.2.1.1)) := fr_tr b1 ⟨fun c hcc => ⟨zcpy_cell _ _ _ _ (fun e => by rw [e] at hcc; cases hcc), rfl⟩, id, rfl⟩
      have b6 : fr kN g (zcpy k 40 32 (nI 0) (nI 0) (nI S.2.1.1)) := fr_tr (fr_le (fun c hcc => by
        have := kAs_Q c (by rw [hcc, Bool.and_false])
        exact this) a2) (kRw_N b5)
      refine cV_ls (X := nX10_mendAll (nI w)) (h := zcpy k 40 32 (nI 0) (nI 0) (nI S.2.1.1)) ?_ b6 (cI_rows hc1 b5 ⟨⟨?_, h40, fun j hj => ?_⟩, ?_, fun q => ⟨(hz q).1, b4 q⟩⟩)
      · unfold nX10_mendAll
        rw [c_needWay hw, Option.bind_some, zel_i, wa, Option.bind_some, wk, Option.bind_some, b2.1, show (0 : Int32) = nI 0 from rfl, zchk_t (zcpo_t (by omega) (by omega) (by omega) (by omega)), a1]
      · rw [zcpy_cell _ _ _ _ (by decide)]; exact b2.1
      · rw [zcpyA _ (by omega) (by omega) (by omega), if_pos (by show 0 ≤ j ∧ j < 0 + _; have : j < S.2.1.1 := hj; omega), (b1.1 40 rfl).1, show 0 + (j - 0) = j by omega]
        exact ⟨a3 j hj, wRo_ok hO hj hro⟩
      · show cH _ _ _ _ _
        unfold cH
        rw [zcpy_cell _ _ _ _ (show 31 ≠ 32 by decide), zcpy_cell _ _ _ _ (show 33 ≠ 32 by decide)]
        exact b3
    · obtain ⟨⟨hM, hF, hNm, hBx⟩, ⟨hR2, hH2⟩, hT2, hW2, hF2⟩ := id hm2
      obtain ⟨k1, w1, a1, a2, a3⟩ := m_laysWanted hO (mP_sc (sc_42 h 0) hM) (mF_sc (sc_42 h 0) hF) (mR_sc (sc_42 h 0) hR2) (show w ≤ 2 by omega)
      rw [zi_at] at a2
      have a4 := sc_tr (sc_42 h 0) a1
      have hm3 := rI_sc a4 hm2
      obtain ⟨⟨pM, pF, _⟩, ⟨pR, pH⟩, _⟩ := id hm3
      obtain ⟨k, w2, c1, c2⟩ := m_remembers hO pR pH
      have c3 := mPn_mw (fun c k q => by unfold wRm at q; omega) c2 hm3.1
      have c4 := mR_mw (W := wRm) (fun c k q => by unfold wRm at q; omega) c2 pR
      obtain ⟨o, w3, d1, d2, d3, d4, d5⟩ := m_mendAll38 (w := w) hO c3.1 c4 c1 (fun j hj => by rw [c2.1 69 j (by unfold wRm; omega)]; exact a3 j hj) (by rw [c2.1 42 0 (by unfold wRm; omega)]; exact a2)
      have d6 : mw wRw h o.2 := mw_tr (sc_Rw a4) (mw_tr (wRm_Rw c2) (mw_le (fun c k q => by unfold wRw; omega) d5))
      refine ⟨o.2, o.1, ?_, wRw_R d6, rI_rows hm2 d6 ⟨d2, d3⟩, d4, fun _ => d1⟩
      unfold nX11_mendAll jX11_mendAll_13
      rw [m_isWay hw, Option.bind_some, if_neg n01, zi_at, if_pos (Int32.le_refl 0), w1, Option.bind_some, w2, Option.bind_some, w3]
  · refine st_q (S := S) (L := nL_mendAll (a 1)) (M := nX11_mendAll (a 1)) (cd := 1) (an := 0) hc hm ?_ (fun h hm2 => ?_)
    · exact cQ_rs (X := nX10_mendAll (a 1)) (by unfold nX10_mendAll; rw [c_needWayN hno, Option.bind_some, zel_e]) (fr_rfl _ _) (by rw [if_pos rfl]) n01
    · unfold nX11_mendAll jX11_mendAll_13
      rw [m_isWayN hno, Option.bind_some, if_pos rfl, zi_at, if_neg le1]
      exact mQ_err n01
end S16
