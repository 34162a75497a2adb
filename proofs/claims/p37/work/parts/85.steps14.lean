
/-! ===== steps: mend, mendAll, trial ===== -/
section S14
variable {S S' : zSt} {g h k : zS} {P : zPl} {N K : Nat} {r : Nat → Nat} {hN : Nat → Nat} {hr : Nat → Nat → Nat}
/-- how many fields differ; what they weigh -/
def oC (P : zPl) (b : Bool) (c m n : Nat) : Nat := sm (fun f => if rv c f = rv m f then 0 else if b then pw P f else 1) n
theorem oC_le (hO : pOK P) (b : Bool) (c m : Nat) : ∀ n, n ≤ pn P → oC P b c m n ≤ 9 * n
  | 0, _ => Nat.le_refl _
  | n + 1, h => by
    have ih := oC_le hO b c m n (by omega)
    have hw := (hO.2.1 n (by omega)).2.2.2.1
    show sm _ (n + 1) ≤ _
    rw [sm_s]
    have : (if rv c n = rv m n then 0 else if b then pw P n else 1) ≤ 9 := by
      by_cases q : rv c n = rv m n
      · rw [if_pos q]; omega
      · rw [if_neg q]
        cases b with
        | true => rw [if_pos rfl]; omega
        | false => rw [if_neg (by decide)]; omega
    have ih' : sm (fun f => if rv c f = rv m f then 0 else if b then pw P f else 1) n ≤ 9 * n := ih
    omega
theorem un_bit (c m f : Nat) : (bS (fun f => rv c f != rv m f) 5).testBit f = true ↔ f < 5 ∧ rv c f ≠ rv m f := by
  rw [bS_bit, Bool.and_eq_true, decide_eq_true_eq, bne_iff_ne]
theorem un_pcn (hO : pOK P) {c m : Nat} (hc : rOK P c) (hm : rOK P m) : pcn (bS (fun f => rv c f != rv m f) 5) = oC P false c m (pn P) := by
  have h5 := hO.1
  show sm (fun i => if (bS (fun f => rv c f != rv m f) 5).testBit i then 1 else 0) 6 = _
  rw [sm_cut (m := pn P) (by omega) (fun i h1 h2 => if_neg (fun q => ?_))]
  · refine sm_congr _ (fun i hi => ?_)
    by_cases q : rv c i = rv m i
    · rw [if_pos q, if_neg (fun e => ((un_bit c m i).mp e).2 q)]
    · rw [if_neg q, if_pos ((un_bit c m i).mpr ⟨by omega, q⟩)]
      rfl
  · obtain ⟨a1, a2⟩ := (un_bit c m i).mp q
    exact a2 (by rw [hc.2.2 i h1 a1, hm.2.2 i h1 a1])
theorem wSum_sm (P : zPl) (T : Nat) : ∀ n, wSum P T n = sm (fun f => if T.testBit f then pw P f else 0) n
  | 0 => rfl
  | n + 1 => by
    rw [sm_s, ← wSum_sm P T n]
    show (if T.testBit n then wSum P T n + pw P n else wSum P T n) = _
    by_cases q : T.testBit n = true
    · rw [if_pos q, if_pos q]
    · rw [if_neg q, if_neg q]; rfl
theorem un_wS (hO : pOK P) (c m : Nat) : wSum P (bS (fun f => rv c f != rv m f) 5) (pn P) = oC P true c m (pn P) := by
  have h5 := hO.1
  rw [wSum_sm]
  refine sm_congr _ (fun i hi => ?_)
  by_cases q : rv c i = rv m i
  · rw [if_pos q, if_neg (fun e => ((un_bit c m i).mp e).2 q)]
  · rw [if_neg q, if_pos ((un_bit c m i).mpr ⟨by omega, q⟩)]
    rfl
theorem un_lt (c m : Nat) : bS (fun f => rv c f != rv m f) 5 < 64 := Nat.lt_of_lt_of_le (bS_lt _ _) (by decide)
theorem vo_m (hO : pOK P) {m : Nat} (hm : rOK P m) (hf : ∀ f, f < pn P → rv m f ≠ 0) {f : Nat} (h : f < pn P) : fno (fun f => rv m f - 1) (pn P) < 3125 ∧ nI (vo (fno (fun f => rv m f - 1) (pn P)) f) = nJ (rv m f) := by
  have h5 := hO.1
  obtain ⟨a1, a2⟩ := vo_fno (a := fun f => rv m f - 1) h5 (fun e he => by have := hm.2.1 e he; have := (hO.2.1 e he).2.1; omega)
  refine ⟨a1, ?_⟩
  rw [a2 f (by omega), if_pos h, nJ_pp (by have := hf f h; omega)]
theorem m_others (hO : pOK P) (hM : mP P g) (hR : mR P N r g) {i m : Nat} (hi : i < N) (hm : rOK P m) (hf : ∀ f, f < pn P → rv m f ≠ 0) (b : Bool) : nX11_others (nI i) (nI (fno (fun f => rv m f - 1) (pn P))) (if b then 1 else 0) g = some (nI (oC P b (r i) m (pn P))) := by
  have h5 := hO.1
  unfold nX11_others
  refine wh_seq (fun f => (nI (oC P b (r i) m f), nI f)) (pn P) (fun f hi2 => ?_) ?_
  · obtain ⟨a1, a2⟩ := vo_m hO hm hf hi2
    have v1 := rv_lt (r i) f
    have v2 := rv_lt m f
    have ho : oC P b (r i) m (f + 1) = oC P b (r i) m f + (if rv (r i) f = rv m f then 0 else if b then pw P f else 1) := sm_s _ _
    dsimp only [wX11_others_6]
    rw [hM.1, if_neg (fun q => by rw [nN_le (by omega) (by omega)] at q; omega), m_of hR h5 hi hi2, Option.bind_some, m_valueOf hM (by omega) (by omega), Option.bind_some, a2, ho]
    by_cases q : rv (r i) f = rv m f
    · rw [if_pos (by rw [q]), if_pos q, Int32.add_zero, Nat.add_zero, nI_s]
    · rw [if_neg (fun e => q ((nJ_eq (by omega) (by omega)).mp e)), if_neg q]
      cases b with
      | true => rw [if_neg (show ¬ (if true = true then (1 : Int32) else 0) = 0 by decide), zchk_t (zin_nI (by omega) (by omega)), nI_cl (by omega), hM.2.2.2.2.1 f hi2, nN_add, nI_s, if_pos rfl]
      | false => rw [if_pos (show (if false = true then (1 : Int32) else 0) = 0 by decide), nI_s, nI_s, if_neg (by decide)]
  · dsimp only [wX11_others_6]
    rw [hM.1, if_pos (Int32.le_refl _)]
    rfl
theorem m_becomes (hO : pOK P) (hM : mP P g) (hR : mR P N r g) {i m : Nat} (hi : i < N) (hm : rOK P m) (hf : ∀ f, f < pn P → rv m f ≠ 0) : ∃ k, nX11_becomes (nI i) (nI (fno (fun f => rv m f - 1) (pn P))) g = some k ∧ mR P N (upA r i m) k ∧ mw (fun c _ => c = 55) g k := by
  have h5 := hO.1
  have h40 := hR.2.1
  unfold nX11_becomes
  refine wh_up (fun f (s : Int32 × zS) => s.1 = nI f ∧ (∀ e, e < f → s.2.1 55 (5 * i + e) = nJ (rv m e)) ∧ (∀ j, (j < 5 * i ∨ 5 * i + 5 ≤ j) → s.2.1 55 j = g.1 55 j) ∧ mw (fun c _ => c = 55) g s.2) (fun k => mR P N (upA r i m) k ∧ mw (fun c _ => c = 55) g k) (pn P) ?_ ?_ ⟨rfl, fun e he => by omega, fun _ _ => rfl, mw_rfl _⟩
  · intro f s hf2 ⟨a1, a2, a3, a4⟩
    obtain ⟨b1, b2⟩ := vo_m hO hm hf hf2
    have hMs : mP P s.2 := by
      unfold mP at hM ⊢
      rw [a4.1 42 16 (by omega), a4.1 42 17 (by omega), a4.1 42 19 (by omega), show s.2.1 51 = g.1 51 from funext fun k => a4.1 51 k (by omega), show s.2.1 52 = g.1 52 from funext fun k => a4.1 52 k (by omega), show s.2.1 53 = g.1 53 from funext fun k => a4.1 53 k (by omega), show s.2.1 54 = g.1 54 from funext fun k => a4.1 54 k (by omega), show s.2.1 58 = g.1 58 from funext fun k => a4.1 58 k (by omega)]
      exact hM
    unfold wX11_becomes_2
    rw [a1, hMs.1, if_neg (fun q => by rw [nN_le (by omega) (by omega)] at q; omega), m_valueOf hMs (by omega) (by omega), Option.bind_some, b2, show (5 : Int32) * nI i = nI (5 * i) from nI_mul 5 i, nN_add, zchk_t (zin_nI (by omega) (by omega)), nI_cl (by omega), nI_s]
    refine ⟨_, rfl, rfl, fun e he => ?_, fun j hj => ?_, mw_tr a4 (mw_zi (W := fun c _ => c = 55) rfl _ _)⟩
    · by_cases q : e = f
      · rw [q, zi_at]
      · rw [zi_else _ _ (by omega)]; exact a2 e (by omega)
    · rw [zi_else _ _ (by omega)]; exact a3 j hj
  · intro s ⟨a1, a2, a3, a4⟩
    unfold wX11_becomes_2
    rw [a1, a4.1 42 16 (by omega), hM.1, if_pos (Int32.le_refl _)]
    refine ⟨_, rfl, ⟨by rw [a4.1 42 18 (by omega)]; exact hR.1, h40, fun j hj => ?_⟩, a4⟩
    show (∀ f, f < pn P → _ = nJ (rv (if j = i then m else r j) f)) ∧ rOK P (if j = i then m else r j)
    by_cases q : j = i
    · rw [if_pos q]
      exact ⟨fun f hf2 => by rw [q]; exact a2 f hf2, hm⟩
    · rw [if_neg q]
      refine ⟨fun f hf2 => ?_, (hR.2.2 j hj).2⟩
      rw [a3 _ (by omega)]
      exact (hR.2.2 j hj).1 f hf2
theorem kDn_S (a : fr kDn g h) (p : cI S g) : cI S h := cI_fr (fun c hc => by
  unfold kQ at hc
  simp only [Bool.or_eq_false_iff] at hc
  exact hc.1.1.2) a p
theorem kDn_N (a : fr kDn g h) : fr kN g h := fr_le (fun c hc => by
  unfold kN at hc
  rw [Bool.or_eq_false_iff, decide_eq_false_iff_not] at hc
  unfold kDn
  rw [Bool.and_eq_false_iff, decide_eq_false_iff_not, decide_eq_false_iff_not]
  omega) a
theorem s_32 (a : Nat → Int32) (hv : Iv g) : ∃ r, nS_32 a g = some r ∧ Iv r := by
  obtain ⟨S, hc, hm⟩ := hv
  obtain ⟨hO, ⟨hP, hE, hC0, hL, h6, hG⟩, ⟨hR, hH, hz⟩, hT, hWr, hFl, hB⟩ := id hc
  have h40 := hR.2.1
  have h5 := hO.1
  unfold nS_32
  rcases ix2 (a 1) (n := S.2.1.1) (by omega) with ⟨i, hi, e1⟩ | hno
  · have hC := hC0 (fun q => by have := (hz q).1; omega)
    have hri := (hR.2.2 i hi).2
    rcases ix2 (a 2) (n := 3) (by omega) with ⟨w, hw, e2⟩ | hno2
    · rw [e1, e2]
      obtain ⟨g1, wm, am⟩ := e_mended hO hP hE hC hL hR hi (show w ≤ 2 by omega)
      have hok := mdd_ok (way := w) hO hi (fun k hk => (hR.2.2 k hk).2)
      by_cases good : rgt S.1 (S.2.1.2.1 i) = false ∧ mdd S.1 S.2.1.2.1 S.2.1.1 i w ≠ 99999
      · obtain ⟨q1, q2⟩ := good
        obtain ⟨o1, o2⟩ := hok q2
        have hc1 := kDn_S am hc
        refine st_v (S := S) (S' := (S.1, Hm S.2.1 S.2.1.1 (upA S.2.1.2.1 i (mdd S.1 S.2.1.2.1 S.2.1.1 i w)), S.2.2)) (L := nL_mend (nI i) (nI w)) (M := nX11_mend (nI i) (nI w)) (cd := 0) (an := nI (oC S.1 false (S.2.1.2.1 i) (mdd S.1 S.2.1.2.1 S.2.1.1 i w) (pn S.1))) hm ?_ (fun h hm2 => ?_)
        · obtain ⟨k, wk, b1, b2, b3, b4⟩ := cI_rmd hc1
          have b5 : fr kRw g1 (zi k 32 i (nI (mdd S.1 S.2.1.2.1 S.2.1.1 i w))) := fr_tr b1 (fr_zi rfl _ _ _)
          refine cV_ls (X := nX10_mend (nI i) (nI w)) (h := zi k 32 i (nI (mdd S.1 S.2.1.2.1 S.2.1.1 i w))) ?_ (fr_tr (kDn_N am) (kRw_N b5)) (cI_rows hc1 b5 (cRw_row b2 b3 (fun q => ⟨(hz q).1, b4 q⟩) hi o1))
          have om := o1.1
          unfold nX10_mend
          rw [c_needRow hR hi, Option.bind_some, zel_i, c_needWay hw, Option.bind_some, zel_i, e_codeOf hR hi, Option.bind_some, e_isRight hO hP hE hri, Option.bind_some, q1, if_pos (show (if false = true then (1 : Int32) else 0) = 0 by decide), wm, Option.bind_some]
          dsimp only
          unfold jX10_mend_43 mI
          rw [if_neg q2, if_neg (fun q => by rw [nI_m1, nN_eqm (by omega)] at q; exact q), wk, Option.bind_some, zchk_t (zin_nI (by omega) (by omega)), e_unlikeFields hri.1 o1.1, Option.bind_some, e_bitCount (un_lt _ _), Option.bind_some, un_pcn hO hri o1, nI_cl (by omega)]
        · obtain ⟨⟨hM, hF, hNm, hBx⟩, ⟨hR2, hH2⟩, hT2, hW2, hF2⟩ := id hm2
          obtain ⟨k1, w1, a1, a2⟩ := m_mended hO (mP_sc (sc_42 h 0) hM) (mF_sc (sc_42 h 0) hF) (mR_sc (sc_42 h 0) hR2) hi (show w ≤ 2 by omega)
          have a3 := sc_tr (sc_42 h 0) a1
          have hm3 := rI_sc a3 hm2
          obtain ⟨k, w2, c1, c2, c3, c4, c5, c6, c7⟩ := m_rmd hO hm3 rfl
          obtain ⟨k2, w3, d1, d2⟩ := m_becomes hO c5 c3 hi o1 o2
          have d3 : mw wRw h k2 := mw_tr (sc_Rw a3) (mw_tr c1 (mw_le (fun c k q => by unfold wRw; omega) d2))
          refine ⟨k2, _, ?_, wRw_R d3, rI_rows hm2 d3 ⟨d1, mH_mw (fun c k q => by omega) d2 c4⟩, by rw [d2.1 42 0 (by omega)]; exact c2, fun _ => rfl⟩
          unfold nX11_mend jX11_mend_25
          rw [m_isRow hR2 hi, Option.bind_some, if_neg n01, m_isWay hw, Option.bind_some, if_neg n01, zi_at, if_pos (Int32.le_refl 0), w1, Option.bind_some]
          dsimp only
          have hoth := m_others hO c5 c3 hi o1 o2 false
          rw [show (if false = true then (1 : Int32) else 0) = 0 from rfl] at hoth
          rw [m_passesRow hO (mP_sc a3 hM) (mF_sc a3 hF) (mR_sc a3 hR2) hi, Option.bind_some, q1, if_pos (show (if false = true then (1 : Int32) else 0) = 0 by decide)]
          have hlt := (vo_fno (a := fun f => rv (mdd S.1 S.2.1.2.1 S.2.1.1 i w) f - 1) h5 (fun e he => by have := o1.2.1 e he; have := (hO.2.1 e he).2.1; omega)).1
          unfold mmI jX11_mend_63
          rw [if_neg q2, if_neg (fun q => by rw [nI_m1, nN_eqm (by omega)] at q; exact q), zi_at, if_pos (Int32.le_refl 0), w2, Option.bind_some, hoth, Option.bind_some, w3, Option.bind_some]
      · refine st_q (S := S) (L := nL_mend (nI i) (nI w)) (M := nX11_mend (nI i) (nI w)) (cd := 3) (an := 0) hc hm ?_ (fun h hm2 => ?_)
        · have hx : ∃ k, nX10_mend (nI i) (nI w) g = some (.inr "java/lang/IllegalStateException", k) ∧ fr kDn g k := by
            unfold nX10_mend
            rw [c_needRow hR hi, Option.bind_some, zel_i, c_needWay hw, Option.bind_some, zel_i, e_codeOf hR hi, Option.bind_some, e_isRight hO hP hE hri, Option.bind_some]
            cases q1 : rgt S.1 (S.2.1.2.1 i) with
            | true =>
              rw [if_neg (show ¬ (if true = true then (1 : Int32) else 0) = 0 by decide)]
              unfold jX10_mend_43
              rw [if_pos rfl]
              exact ⟨_, rfl, fr_rfl _ _⟩
            | false =>
              have q2 : mdd S.1 S.2.1.2.1 S.2.1.1 i w = 99999 := Decidable.byContradiction fun e => good ⟨q1, e⟩
              rw [if_pos (show (if false = true then (1 : Int32) else 0) = 0 by decide), wm, Option.bind_some]
              dsimp only
              unfold jX10_mend_43 mI
              rw [if_pos q2, if_pos rfl]
              exact ⟨_, rfl, am⟩
          obtain ⟨k, wx, ax⟩ := hx
          exact cQ_rs (X := nX10_mend (nI i) (nI w)) wx (fr_le kDn_Q ax) (by rw [if_neg (by decide), if_neg (by decide), if_pos rfl]) n03
        · obtain ⟨⟨hM, hF, hNm, hBx⟩, ⟨hR2, hH2⟩, hT2, hW2, hF2⟩ := id hm2
          obtain ⟨k1, w1, a1, a2⟩ := m_mended hO (mP_sc (sc_42 h 0) hM) (mF_sc (sc_42 h 0) hF) (mR_sc (sc_42 h 0) hR2) hi (show w ≤ 2 by omega)
          have a3 := sc_tr (sc_42 h 0) a1
          unfold nX11_mend jX11_mend_25
          rw [m_isRow hR2 hi, Option.bind_some, if_neg n01, m_isWay hw, Option.bind_some, if_neg n01, zi_at, if_pos (Int32.le_refl 0), w1, Option.bind_some]
          dsimp only
          rw [m_passesRow hO (mP_sc a3 hM) (mF_sc a3 hF) (mR_sc a3 hR2) hi, Option.bind_some]
          have fin : ∃ k an', jX11_mend_58 (nI i) (mmI S.1 (mdd S.1 S.2.1.2.1 S.2.1.1 i w)) k1 = some (an', k) ∧ sc h k ∧ k.1 42 0 = 3 ∧ ((3 : Int32) = 0 → an' = 0) := by
            unfold jX11_mend_58 jX11_mend_63
            rw [zi_at, if_neg le3]
            exact ⟨_, _, rfl, sc_tr a3 (sc_42 _ _), zi_at _ _ _ _, fun q => absurd q n03⟩
          cases q1 : rgt S.1 (S.2.1.2.1 i) with
          | true =>
            rw [if_neg (show ¬ (if true = true then (1 : Int32) else 0) = 0 by decide)]
            exact fin
          | false =>
            have q2 : mdd S.1 S.2.1.2.1 S.2.1.1 i w = 99999 := Decidable.byContradiction fun e => good ⟨q1, e⟩
            rw [if_pos (show (if false = true then (1 : Int32) else 0) = 0 by decide), if_pos (show mmI S.1 (mdd S.1 S.2.1.2.1 S.2.1.1 i w) = -1 from if_pos q2)]
            exact fin
    · rw [e1]
      refine st_q (S := S) (L := nL_mend (nI i) (a 2)) (M := nX11_mend (nI i) (a 2)) (cd := 2) (an := 0) hc hm ?_ (fun h hm2 => ?_)
      · exact cQ_rs (X := nX10_mend (nI i) (a 2)) (e := "java/lang/IllegalArgumentException") (by unfold nX10_mend; rw [c_needRow hR hi, Option.bind_some, zel_i, c_needWayN hno2, Option.bind_some, zel_e]) (fr_rfl _ _) (by rw [if_neg (by decide), if_pos rfl]) n02
      · obtain ⟨_, ⟨p2, p3⟩, _⟩ := hm2
        unfold nX11_mend jX11_mend_25
        rw [m_isRow p2 hi, Option.bind_some, if_neg n01, m_isWayN hno2, Option.bind_some, if_pos rfl, zi_at, if_neg le2]
        exact mQ_err n02
  · refine st_q (S := S) (L := nL_mend (a 1) (a 2)) (M := nX11_mend (a 1) (a 2)) (cd := 1) (an := 0) hc hm ?_ (fun h hm2 => ?_)
    · exact cQ_rs (X := nX10_mend (a 1) (a 2)) (by unfold nX10_mend; rw [c_needRowN hR hno, Option.bind_some, zel_e]) (fr_rfl _ _) (by rw [if_pos rfl]) n01
    · obtain ⟨_, ⟨p2, p3⟩, _⟩ := hm2
      unfold nX11_mend jX11_mend_25
      rw [m_isRowN p2 hno, Option.bind_some, if_pos rfl, zi_at, if_neg le1]
      exact mQ_err n01
end S14
