
/-! ===== steps: trial ===== -/
section S17
variable {S S' : zSt} {g h k : zS} {P : zPl} {N K : Nat} {r : Nat → Nat}
theorem oC_same (b : Bool) (c n : Nat) : oC P b c c n = 0 := sm_zero n (fun i _ => if_pos rfl)
/-- what a trial changes -/
def tS (P : zPl) (r : Nat → Nat) (N w : Nat) (b : Bool) (n : Nat) : Nat := sm (fun k => oC P b (r k) (wRo P r N w k) (pn P)) n
theorem tS_le (hO : pOK P) (w : Nat) (b : Bool) : ∀ n, tS P r N w b n ≤ 45 * n
  | 0 => Nat.le_refl _
  | n + 1 => by
    have ih := tS_le hO w b n
    have h1 := oC_le hO b (r n) (wRo P r N w n) (pn P) (Nat.le_refl _)
    have h5 := hO.1
    show sm _ (n + 1) ≤ _
    rw [sm_s]
    have e : sm (fun k => oC P b (r k) (wRo P r N w k) (pn P)) n ≤ 45 * n := ih
    omega
def tAn (P : zPl) (r : Nat → Nat) (N w t : Nat) : Nat := if t = 0 then cnt (fun k => rgt P (r k)) N + cnt (wB P r N w) N else tS P r N w (t == 2) N
theorem c3' {t : Nat} (h : t < 3) : t = 0 ∨ t = 1 ∨ t = 2 := by omega
theorem e_trial (hO : pOK P) (hP : cP P g) (hE : cE P g) (hC : N ≠ 0 → cC P g) (hL : cL P g) (hR : rR P N r g) {w t : Nat} (hw : w < 3) (ht : t < 3) : ∃ k, nX10_trial (nI w) (nI t) g = some (.inl (nI (tAn P r N w t)), k) ∧ fr kAs g k := by
  have h40 := hR.2.1
  have hro : ∀ k, k < N → rOK P (r k) := fun k hk => (hR.2.2 k hk).2
  obtain ⟨⟨o1, o2⟩, wa, a1, a2, a3⟩ := e_mendAside hO hP hE hC hL hR (show w ≤ 2 by omega)
  dsimp only at a1 a2 a3
  have hP2 := cP_fr (K := kAs) ⟨rfl, rfl, rfl, rfl, rfl, rfl, rfl⟩ a2 hP
  have hE2 := cE_fr (K := kAs) rfl a2 hE
  have hR2 := rR_fr (K := kAs) ⟨rfl, rfl⟩ a2 hR
  refine ⟨o2, ?_, a2⟩
  unfold nX10_trial
  rw [c_needWay hw, Option.bind_some, zel_i, if_neg (nI_nn (by omega)), if_pos (show nI t ≤ (2 : Int32) from (nN_le (b := 2) (by omega) (by omega)).mpr (by omega)), wa, Option.bind_some]
  unfold tAn
  by_cases q : t = 0
  · rw [if_pos (by rw [q]; rfl), if_pos q, e_countRight hO hP2 hE2 hR2, Option.bind_some, a1, nN_add]
  · have q1 : ¬ nI t = 0 := fun e => q ((nN_eq0 (by omega)).mp e)
    rw [if_neg q1, if_neg q]
    refine wh_seq (fun i => (nI (tS P r N w (t == 2) i), nI i)) N (fun i hi => ?_) ?_
    · have hs : tS P r N w (t == 2) (i + 1) = tS P r N w (t == 2) i + oC P (t == 2) (r i) (wRo P r N w i) (pn P) := sm_s _ _
      have ok := wRo_ok (w := w) hO hi hro
      dsimp only [wX10_trial_48]
      rw [hR2.1, if_neg (fun q => by rw [nN_le (by omega) (by omega)] at q; omega), zchk_t (zin_nI (by omega) (by omega)), zchk_t (zin_nI (by omega) (by omega)), nI_cl (by omega), (hR2.2.2 i hi).1, a3 i hi, e_unlikeFields (hro i hi).1 ok.1, Option.bind_some, hs]
      by_cases q2 : t = 1
      · rw [if_pos (by rw [q2]; rfl), e_bitCount (un_lt _ _), Option.bind_some, un_pcn hO (hro i hi) ok, nN_add, nI_s, q2]
        rfl
      · have q3 : t = 2 := by omega
        rw [if_neg (by rw [q3]; decide), e_weightOf hO hP2, Option.bind_some, un_wS hO, nN_add, nI_s, q3]
        rfl
    · dsimp only [wX10_trial_48]
      rw [hR2.1, if_pos (Int32.le_refl _)]
      rfl
theorem m_trial (hO : pOK P) (hM : mP P g) (hF : mF P g) (hR : mR P N r g) {w t : Nat} (ht : t < 3) (h69 : ∀ j, j < N → g.1 69 j = mWt P r N w j) : wh (wX11_trial_48 (nI t) g) ((0 : Int32), (0 : Int32)) = some (nI (tAn P r N w t), g) := by
  have h40 := hR.2.1
  have hro : ∀ k, k < N → rOK P (r k) := fun k hk => (hR.2.2 k hk).2
  unfold tAn
  by_cases q : t = 0
  · rw [if_pos q, q]
    refine wh_seq (fun i => (nI (cnt (fun k => rgt P (r k)) i + cnt (wB P r N w) i), nI i)) N (fun i hi => ?_) ?_
    · have h1 : cnt (fun k => rgt P (r k)) (i + 1) = if rgt P (r i) then cnt (fun k => rgt P (r k)) i + 1 else cnt (fun k => rgt P (r k)) i := cnt_s _ _
      have h2 : cnt (wB P r N w) (i + 1) = if wB P r N w i then cnt (wB P r N w) i + 1 else cnt (wB P r N w) i := cnt_s _ _
      dsimp only [wX11_trial_48]
      rw [hR.1, if_neg (fun q => by rw [nN_le (by omega) (by omega)] at q; omega), if_pos (show nI 0 = (0 : Int32) from rfl), zchk_t (zin_nI (by omega) (by omega)), nI_cl (by omega), h69 i hi, h1, h2]
      cases hb : wB P r N w i with
      | true =>
        have e : rgt P (r i) = false := by
          unfold wB at hb
          rw [Bool.and_eq_true, Bool.not_eq_true'] at hb
          exact hb.1
        rw [if_neg (mWt_yes hO hi hro hb).2.1, e, if_pos rfl, if_neg (by decide), nI_s, nI_s]
        rfl
      | false =>
        rw [if_pos (mWt_no hb), m_passesRow hO hM hF hR hi, Option.bind_some]
        cases rgt P (r i) with
        | true => rw [if_neg (show ¬ (if true = true then (1 : Int32) else 0) = 0 by decide), nI_s, nI_s, if_pos rfl, if_neg (by decide), show cnt (fun k => rgt P (r k)) i + 1 + cnt (wB P r N w) i = cnt (fun k => rgt P (r k)) i + cnt (wB P r N w) i + 1 by omega]
        | false => rw [if_pos (show (if false = true then (1 : Int32) else 0) = 0 by decide), Int32.add_zero, nI_s, if_neg (by decide), if_neg (by decide)]
    · dsimp only [wX11_trial_48]
      rw [hR.1, if_pos (Int32.le_refl _)]
      rfl
  · rw [if_neg q]
    have q1 : ¬ nI t = 0 := fun e => q ((nN_eq0 (by omega)).mp e)
    refine wh_seq (fun i => (nI (tS P r N w (t == 2) i), nI i)) N (fun i hi => ?_) ?_
    · have hs : tS P r N w (t == 2) (i + 1) = tS P r N w (t == 2) i + oC P (t == 2) (r i) (wRo P r N w i) (pn P) := sm_s _ _
      dsimp only [wX11_trial_48]
      rw [hR.1, if_neg (fun q => by rw [nN_le (by omega) (by omega)] at q; omega), if_neg q1, zchk_t (zin_nI (by omega) (by omega)), nI_cl (by omega), h69 i hi, hs]
      cases hb : wB P r N w i with
      | false =>
        rw [if_pos (mWt_no hb), wRo_no hb, oC_same, Nat.add_zero, nI_s]
      | true =>
        obtain ⟨y1, y2, y3, y4⟩ := mWt_yes hO hi hro hb
        have ho := m_others hO hM hR hi y3 y4 (t == 2)
        rw [if_neg y2, zchk_t (zin_nI (by omega) (by omega)), y1]
        unfold jX11_trial_124
        by_cases q2 : t = 2
        · rw [q2, show (if (2 == 2) = true then (1 : Int32) else 0) = 1 from rfl] at ho
          rw [q2, if_pos (show nI 2 = (2 : Int32) from rfl), ho, Option.bind_some, nN_add, nI_s]
        · have q3 : t = 1 := by omega
          rw [q3, show (if (1 == 2) = true then (1 : Int32) else 0) = 0 from rfl] at ho
          rw [q3, if_neg (show ¬ nI 1 = (2 : Int32) by decide), ho, Option.bind_some, nN_add, nI_s]
    · dsimp only [wX11_trial_48]
      rw [hR.1, if_pos (Int32.le_refl _)]
      rfl
theorem s_34 (a : Nat → Int32) (hv : Iv g) : ∃ r, nS_34 a g = some r ∧ Iv r := by
  obtain ⟨S, hc, hm⟩ := hv
  obtain ⟨hO, ⟨hP, hE, hC0, hL, h6, hG⟩, ⟨hR, hH, hz⟩, hT, hWr, hFl, hB⟩ := id hc
  unfold nS_34
  rcases ix2 (a 1) (n := 3) (by omega) with ⟨w, hw, e1⟩ | hno
  · rcases ix2 (a 2) (n := 3) (by omega) with ⟨t, ht, e2⟩ | hno2
    · rw [e1, e2]
      refine st_q (S := S) (L := nL_trial (nI w) (nI t)) (M := nX11_trial (nI w) (nI t)) (cd := 0) (an := nI (tAn S.1 S.2.1.2.1 S.2.1.1 w t)) hc hm ?_ (fun h hm2 => ?_)
      · obtain ⟨k, wk, ak⟩ := e_trial hO hP hE (fun q => hC0 (fun e => q (hz e).1)) hL hR hw ht
        exact cQ_ls (X := nX10_trial (nI w) (nI t)) wk (fr_le kAs_Q ak)
      · obtain ⟨⟨hM, hF, hNm, hBx⟩, ⟨hR2, hH2⟩, hT2, hW2, hF2⟩ := id hm2
        obtain ⟨k1, w1, a1, a2, a3⟩ := m_laysWanted hO (mP_sc (sc_42 h 0) hM) (mF_sc (sc_42 h 0) hF) (mR_sc (sc_42 h 0) hR2) (show w ≤ 2 by omega)
        rw [zi_at] at a2
        have a4 := sc_tr (sc_42 h 0) a1
        have h3 : nX11_isIn (nI t) 0 2 = some 1 := m_in1 (k := t) (n := 2) (by omega) (by omega)
        refine ⟨k1, _, ?_, a4, a2, fun _ => rfl⟩
        unfold nX11_trial jX11_trial_26
        rw [m_isWay hw, Option.bind_some, if_neg n01, h3, Option.bind_some, if_neg n01, zi_at, if_pos (Int32.le_refl 0), w1, Option.bind_some, m_trial hO (mP_sc a4 hM) (mF_sc a4 hF) (mR_sc a4 hR2) ht a3]
    · rw [e1]
      refine st_q (S := S) (L := nL_trial (nI w) (a 2)) (M := nX11_trial (nI w) (a 2)) (cd := 2) (an := 0) hc hm ?_ (fun h hm2 => ?_)
      · refine cQ_rs (X := nX10_trial (nI w) (a 2)) (e := "java/util/NoSuchElementException") ?_ (fr_rfl _ _) (by rw [if_neg (by decide), if_pos rfl]) n02
        unfold nX10_trial jX10_trial_14
        rw [c_needWay hw, Option.bind_some, zel_i]
        by_cases c : a 2 < 0
        · rw [if_pos c]
        · rw [if_neg c, if_neg (fun e => nIx_lt hno2 ⟨c, Int32.lt_of_le_of_lt e (by decide)⟩)]
      · have h3 : nX11_isIn (a 2) 0 2 = some 0 := m_out1 (n := 2) (by omega) hno2
        unfold nX11_trial jX11_trial_26
        rw [m_isWay hw, Option.bind_some, if_neg n01, h3, Option.bind_some, if_pos rfl, zi_at, if_neg le2]
        exact mQ_err n02
  · refine st_q (S := S) (L := nL_trial (a 1) (a 2)) (M := nX11_trial (a 1) (a 2)) (cd := 1) (an := 0) hc hm ?_ (fun h hm2 => ?_)
    · exact cQ_rs (X := nX10_trial (a 1) (a 2)) (by unfold nX10_trial; rw [c_needWayN hno, Option.bind_some, zel_e]) (fr_rfl _ _) (by rw [if_pos rfl]) n01
    · unfold nX11_trial jX11_trial_26
      rw [m_isWayN hno, Option.bind_some, if_pos rfl, zi_at, if_neg le1]
      exact mQ_err n01
end S17
