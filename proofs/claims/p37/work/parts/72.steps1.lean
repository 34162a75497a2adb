
/-! ===== steps: queries of rows ===== -/
section S1
variable {g h : zS}
theorem zel_i {V R : Type} (v : V) (f : V → Option R) (e : String → Option R) : zel (.inl v) f e = f v := rfl
theorem zel_e {V R : Type} (v : String) (f : V → Option R) (e : String → Option R) : zel (.inr v) f e = e v := rfl
theorem cQb_l {X : zS → Option (Int32 ⊕ String)} {E : String → zS → Option (Int32 × zS)} {b : Bool} (q : X g = some (.inl (if b then 1 else 0))) : cQb (fun g => (X g).bind fun v => zel v (fun w => if w = 0 then (some ((0 : Int32), (zl g 72 (0 : Int32).toNatClampNeg (0 : Int64)))) else (some ((0 : Int32), (zl g 72 (0 : Int32).toNatClampNeg (1 : Int64))))) (fun e => E e g)) g 0 b := by
  cases b with
  | true => exact ⟨zl g 72 (0 : Int32).toNatClampNeg 1, by dsimp only; rw [q, Option.bind_some, zel_i, if_neg (by decide)], kQN_zl, fun _ => zl_at _ _ _ _⟩
  | false => exact ⟨zl g 72 (0 : Int32).toNatClampNeg 0, by dsimp only; rw [q, Option.bind_some, zel_i, if_pos (by decide)], kQN_zl, fun _ => zl_at _ _ _ _⟩
theorem cQb_r {X : zS → Option (Int32 ⊕ String)} {E : String → zS → Option (Int32 × zS)} {e : String} {cd : Int32} {b : Bool} (q : X g = some (.inr e)) (hE : E e g = some (cd, g)) (hcd : cd ≠ 0) : cQb (fun g => (X g).bind fun v => zel v (fun w => if w = 0 then (some ((0 : Int32), (zl g 72 (0 : Int32).toNatClampNeg (0 : Int64)))) else (some ((0 : Int32), (zl g 72 (0 : Int32).toNatClampNeg (1 : Int64))))) (fun e => E e g)) g cd b := by
  refine ⟨g, by dsimp only; rw [q, Option.bind_some]; exact hE, fr_rfl _ _, fun k => absurd k hcd⟩
theorem znb_b (b : Bool) : znb (if b then 1 else 0) = true := by cases b <;> rfl
theorem kT_Q : ∀ c, (kQ c && kN c) = false → kT c = false := fun c hc => by
  cases q : kT c with
  | false => rfl
  | true =>
    unfold kT at q
    rw [Bool.or_eq_true, beq_iff_eq, beq_iff_eq] at q
    rcases q with rfl | rfl <;> cases hc
theorem s_18 (a : Nat → Int32) (hv : Iv g) : ∃ r, nS_18 a g = some r ∧ Iv r := by
  obtain ⟨S, hc, hm⟩ := hv
  obtain ⟨hO, ⟨hP, hE, hC0, hL, h6, hG⟩, ⟨hR, hH, hz⟩, hT, hWr, hFl, hB⟩ := id hc
  rcases ix2 (a 1) (n := S.2.1.1) (by have := hR.2.1; omega) with ⟨i1, h1, e1⟩ | h1
  · have hC := hC0 (fun q => by have := (hz q).1; omega)
    unfold nS_18
    rw [e1]
    refine st_q (L := nL_fails (nI i1)) (M := nX11_fails (nI i1)) (cd := 0) (an := nI (lft S.1 (S.2.1.2.1 i1) 0 (pn S.1))) hc hm ?_ ?_
    · exact cQ_l (X := nX10_fails (nI i1)) (by unfold nX10_fails; rw [c_needRow hR h1, Option.bind_some, zel_i, e_codeOf hR h1, Option.bind_some, e_editsFailed hO hP hE (hR.2.2 i1 h1).2, Option.bind_some])
    · intro h hm2
      obtain ⟨⟨hM, hF, hNm, hBx⟩, ⟨hR2, hH2⟩, hT2, hW2, hF2⟩ := id hm2
      unfold nX11_fails jX11_fails_14
      rw [m_isRow hR2 h1, Option.bind_some, if_neg n01, zi_at, if_pos (Int32.le_refl 0)]
      rw [m_failsOf hO (mP_sc (sc_42 h 0) hM) (mR_sc (sc_42 h 0) hR2) h1, Option.bind_some]
      exact ⟨_, _, rfl, sc_42 _ _, zi_at _ _ _ _, fun _ => rfl⟩
  · unfold nS_18
    refine st_q (L := nL_fails (a 1)) (M := nX11_fails (a 1)) (cd := 1) (an := 0) hc hm ?_ ?_
    · exact cQ_r (X := nX10_fails (a 1)) (by unfold nX10_fails; rw [c_needRowN hR h1, Option.bind_some, zel_e]) (by rw [if_pos rfl]) n01
    · intro h hm2
      obtain ⟨⟨hM, hF, hNm, hBx⟩, ⟨hR2, hH2⟩, hT2, hW2, hF2⟩ := id hm2
      unfold nX11_fails jX11_fails_14
      rw [m_isRowN hR2 h1, Option.bind_some, if_pos rfl, zi_at, if_neg le1]
      exact mQ_err n01
theorem s_14 (a : Nat → Int32) (hv : Iv g) : ∃ r, nS_14 a g = some r ∧ Iv r := by
  obtain ⟨S, hc, hm⟩ := hv
  obtain ⟨hO, ⟨hP, hE, hC0, hL, h6, hG⟩, ⟨hR, hH, hz⟩, hT, hWr, hFl, hB⟩ := id hc
  rcases ix2 (a 1) (n := S.2.1.1) (by have := hR.2.1; omega) with ⟨i1, h1, e1⟩ | h1
  · have hC := hC0 (fun q => by have := (hz q).1; omega)
    rcases ix2 (a 2) (n := pn S.1) (by have := hO.1; omega) with ⟨i2, h2, e2⟩ | h2
    · unfold nS_14
      rw [e1]
      rw [e2]
      refine st_q (L := nL_answer (nI i1) (nI i2)) (M := nX11_answer (nI i1) (nI i2)) (cd := 0) (an := nJ (rv (S.2.1.2.1 i1) i2)) hc hm ?_ ?_
      · exact cQ_l (X := nX10_answer (nI i1) (nI i2)) (by unfold nX10_answer; rw [c_needRow hR h1, Option.bind_some, zel_i, c_needField hO hP h2, Option.bind_some, zel_i, e_codeOf hR h1, Option.bind_some, e_answerAt (hR.2.2 i1 h1).2.1 (by have := hO.1; omega), Option.bind_some])
      · intro h hm2
        obtain ⟨⟨hM, hF, hNm, hBx⟩, ⟨hR2, hH2⟩, hT2, hW2, hF2⟩ := id hm2
        unfold nX11_answer jX11_answer_21 jX11_answer_22
        rw [m_isRow hR2 h1, Option.bind_some, if_neg n01, m_isField hO hM h2, Option.bind_some, if_neg n01, zi_at, if_pos (Int32.le_refl 0)]
        rw [m_of (mR_sc (sc_42 h 0) hR2) hO.1 h1 h2, Option.bind_some]
        exact ⟨_, _, rfl, sc_42 _ _, zi_at _ _ _ _, fun _ => rfl⟩
    · unfold nS_14
      rw [e1]
      refine st_q (L := nL_answer (nI i1) (a 2)) (M := nX11_answer (nI i1) (a 2)) (cd := 1) (an := 0) hc hm ?_ ?_
      · exact cQ_r (X := nX10_answer (nI i1) (a 2)) (by unfold nX10_answer; rw [c_needRow hR h1, Option.bind_some, zel_i, c_needFieldN hP h2, Option.bind_some, zel_e]) (by rw [if_pos rfl]) n01
      · intro h hm2
        obtain ⟨⟨hM, hF, hNm, hBx⟩, ⟨hR2, hH2⟩, hT2, hW2, hF2⟩ := id hm2
        unfold nX11_answer jX11_answer_21 jX11_answer_22
        rw [m_isRow hR2 h1, Option.bind_some, if_neg n01, m_isFieldN hO hM h2, Option.bind_some, if_pos rfl, zi_at, if_neg le1]
        exact mQ_err n01
  · unfold nS_14
    refine st_q (L := nL_answer (a 1) (a 2)) (M := nX11_answer (a 1) (a 2)) (cd := 1) (an := 0) hc hm ?_ ?_
    · exact cQ_r (X := nX10_answer (a 1) (a 2)) (by unfold nX10_answer; rw [c_needRowN hR h1, Option.bind_some, zel_e]) (by rw [if_pos rfl]) n01
    · intro h hm2
      obtain ⟨⟨hM, hF, hNm, hBx⟩, ⟨hR2, hH2⟩, hT2, hW2, hF2⟩ := id hm2
      unfold nX11_answer jX11_answer_21 jX11_answer_22
      rw [m_isRowN hR2 h1, Option.bind_some, if_pos rfl, zi_at, if_neg le1]
      exact mQ_err n01
theorem s_6 (a : Nat → Int32) (hv : Iv g) : ∃ r, nS_6 a g = some r ∧ Iv r := by
  obtain ⟨S, hc, hm⟩ := hv
  obtain ⟨hO, ⟨hP, hE, hC0, hL, h6, hG⟩, ⟨hR, hH, hz⟩, hT, hWr, hFl, hB⟩ := id hc
  rcases ix2 (a 1) (n := pm S.1) (by have := hO.2.2.2.1; omega) with ⟨i1, h1, e1⟩ | h1
  · rcases ix2 (a 2) (n := pn S.1) (by have := hO.1; omega) with ⟨i2, h2, e2⟩ | h2
    · unfold nS_6
      rw [e1]
      rw [e2]
      refine st_q (L := nL_edit (nI i1) (nI i2)) (M := nX11_edit (nI i1) (nI i2)) (cd := 0) (an := nI (pE S.1 i1 i2)) hc hm ?_ ?_
      · exact cQ_l (X := nX10_edit (nI i1) (nI i2)) (by unfold nX10_edit; rw [c_needEdit hO hP h1, Option.bind_some, zel_i, c_needField hO hP h2, Option.bind_some, zel_i, e_editSet hO hP h1 h2, Option.bind_some])
      · intro h hm2
        obtain ⟨⟨hM, hF, hNm, hBx⟩, ⟨hR2, hH2⟩, hT2, hW2, hF2⟩ := id hm2
        unfold nX11_edit jX11_edit_21 jX11_edit_22
        rw [m_isEdit hO hM h1, Option.bind_some, if_neg n01, m_isField hO hM h2, Option.bind_some, if_neg n01, zi_at, if_pos (Int32.le_refl 0)]
        have h5 := hO.1
        have h55 := hO.2.2.2.1
        rw [show (5 : Int32) = nI 5 from rfl, nI_mul, nN_add, zchk_t (zin_nI (by omega) (by omega)), nI_cl (by omega), (mP_sc (sc_42 h 0) hM).2.2.2.2.2.2.1 i1 h1 i2 h2]
        exact ⟨_, _, rfl, sc_42 _ _, zi_at _ _ _ _, fun _ => rfl⟩
    · unfold nS_6
      rw [e1]
      refine st_q (L := nL_edit (nI i1) (a 2)) (M := nX11_edit (nI i1) (a 2)) (cd := 1) (an := 0) hc hm ?_ ?_
      · exact cQ_r (X := nX10_edit (nI i1) (a 2)) (by unfold nX10_edit; rw [c_needEdit hO hP h1, Option.bind_some, zel_i, c_needFieldN hP h2, Option.bind_some, zel_e]) (by rw [if_pos rfl]) n01
      · intro h hm2
        obtain ⟨⟨hM, hF, hNm, hBx⟩, ⟨hR2, hH2⟩, hT2, hW2, hF2⟩ := id hm2
        unfold nX11_edit jX11_edit_21 jX11_edit_22
        rw [m_isEdit hO hM h1, Option.bind_some, if_neg n01, m_isFieldN hO hM h2, Option.bind_some, if_pos rfl, zi_at, if_neg le1]
        exact mQ_err n01
  · unfold nS_6
    refine st_q (L := nL_edit (a 1) (a 2)) (M := nX11_edit (a 1) (a 2)) (cd := 1) (an := 0) hc hm ?_ ?_
    · exact cQ_r (X := nX10_edit (a 1) (a 2)) (by unfold nX10_edit; rw [c_needEditN hP h1, Option.bind_some, zel_e]) (by rw [if_pos rfl]) n01
    · intro h hm2
      obtain ⟨⟨hM, hF, hNm, hBx⟩, ⟨hR2, hH2⟩, hT2, hW2, hF2⟩ := id hm2
      unfold nX11_edit jX11_edit_21 jX11_edit_22
      rw [m_isEditN hO hM h1, Option.bind_some, if_pos rfl, zi_at, if_neg le1]
      exact mQ_err n01
theorem s_28 (a : Nat → Int32) (hv : Iv g) : ∃ r, nS_28 a g = some r ∧ Iv r := by
  obtain ⟨S, hc, hm⟩ := hv
  obtain ⟨hO, ⟨hP, hE, hC0, hL, h6, hG⟩, ⟨hR, hH, hz⟩, hT, hWr, hFl, hB⟩ := id hc
  rcases ix2 (a 1) (n := S.2.1.1) (by have := hR.2.1; omega) with ⟨i1, h1, e1⟩ | h1
  · have hC := hC0 (fun q => by have := (hz q).1; omega)
    unfold nS_28
    rw [e1]
    refine st_q (L := nL_forced (nI i1)) (M := nX11_forced (nI i1)) (cd := 0) (an := nI (frc S.1 (S.2.1.2.1 i1))) hc hm ?_ ?_
    · exact cQ_l (X := nX10_forced (nI i1)) (by unfold nX10_forced; rw [c_needRow hR h1, Option.bind_some, zel_i, e_codeOf hR h1, Option.bind_some, e_forcedIn hO hP hE hC hL (hR.2.2 i1 h1).2, Option.bind_some])
    · intro h hm2
      obtain ⟨⟨hM, hF, hNm, hBx⟩, ⟨hR2, hH2⟩, hT2, hW2, hF2⟩ := id hm2
      unfold nX11_forced jX11_forced_14
      rw [m_isRow hR2 h1, Option.bind_some, if_neg n01, zi_at, if_pos (Int32.le_refl 0)]
      rw [m_lightest hO (mP_sc (sc_42 h 0) hM) (mF_sc (sc_42 h 0) hF) (mR_sc (sc_42 h 0) hR2) h1, Option.bind_some]
      have c2 : sc h (zi (zi h 42 0 0) 42 36 (nI (lmN S.1 (S.2.1.2.1 i1) (ls S.1 (S.2.1.2.1 i1)) (2 ^ pn S.1)))) := sc_tr (sc_42 h 0) (sc_zi rfl _ _)
      dsimp only
      rw [m_forced37 hO (mP_sc c2 hM) (mF_sc c2 hF) (mR_sc c2 hR2) h1]
      exact ⟨_, _, rfl, c2, by rw [zi_else _ _ (by decide), zi_at], fun _ => rfl⟩
  · unfold nS_28
    refine st_q (L := nL_forced (a 1)) (M := nX11_forced (a 1)) (cd := 1) (an := 0) hc hm ?_ ?_
    · exact cQ_r (X := nX10_forced (a 1)) (by unfold nX10_forced; rw [c_needRowN hR h1, Option.bind_some, zel_e]) (by rw [if_pos rfl]) n01
    · intro h hm2
      obtain ⟨⟨hM, hF, hNm, hBx⟩, ⟨hR2, hH2⟩, hT2, hW2, hF2⟩ := id hm2
      unfold nX11_forced jX11_forced_14
      rw [m_isRowN hR2 h1, Option.bind_some, if_pos rfl, zi_at, if_neg le1]
      exact mQ_err n01
theorem s_26 (a : Nat → Int32) (hv : Iv g) : ∃ r, nS_26 a g = some r ∧ Iv r := by
  obtain ⟨S, hc, hm⟩ := hv
  obtain ⟨hO, ⟨hP, hE, hC0, hL, h6, hG⟩, ⟨hR, hH, hz⟩, hT, hWr, hFl, hB⟩ := id hc
  rcases ix2 (a 1) (n := S.2.1.1) (by have := hR.2.1; omega) with ⟨i1, h1, e1⟩ | h1
  · have hC := hC0 (fun q => by have := (hz q).1; omega)
    unfold nS_26
    rw [e1]
    refine st_q (L := nL_leastOf (nI i1) (a 2)) (M := nX11_leastOf (nI i1) (a 2)) (cd := 0) (an := kth (lsB S.1 (S.2.1.2.1 i1)) (2 ^ pn S.1) (a 2)) hc hm ?_ ?_
    · exact cQ_l (X := nX10_leastOf (nI i1) (a 2)) (by unfold nX10_leastOf; rw [c_needRow hR h1, Option.bind_some, zel_i, e_codeOf hR h1, Option.bind_some, e_leastAt hO hP hE hC hL (hR.2.2 i1 h1).2, Option.bind_some])
    · intro h hm2
      obtain ⟨⟨hM, hF, hNm, hBx⟩, ⟨hR2, hH2⟩, hT2, hW2, hF2⟩ := id hm2
      unfold nX11_leastOf jX11_leastOf_14
      rw [m_isRow hR2 h1, Option.bind_some, if_neg n01, zi_at, if_pos (Int32.le_refl 0)]
      rw [m_lightest hO (mP_sc (sc_42 h 0) hM) (mF_sc (sc_42 h 0) hF) (mR_sc (sc_42 h 0) hR2) h1, Option.bind_some]
      have c2 : sc h (zi (zi h 42 0 0) 42 36 (nI (lmN S.1 (S.2.1.2.1 i1) (ls S.1 (S.2.1.2.1 i1)) (2 ^ pn S.1)))) := sc_tr (sc_42 h 0) (sc_zi rfl _ _)
      dsimp only
      rw [m_leastOf38 hO (mP_sc c2 hM) (mF_sc c2 hF) (mR_sc c2 hR2) h1]
      exact ⟨_, _, rfl, c2, by rw [zi_else _ _ (by decide), zi_at], fun _ => rfl⟩
  · unfold nS_26
    refine st_q (L := nL_leastOf (a 1) (a 2)) (M := nX11_leastOf (a 1) (a 2)) (cd := 1) (an := 0) hc hm ?_ ?_
    · exact cQ_r (X := nX10_leastOf (a 1) (a 2)) (by unfold nX10_leastOf; rw [c_needRowN hR h1, Option.bind_some, zel_e]) (by rw [if_pos rfl]) n01
    · intro h hm2
      obtain ⟨⟨hM, hF, hNm, hBx⟩, ⟨hR2, hH2⟩, hT2, hW2, hF2⟩ := id hm2
      unfold nX11_leastOf jX11_leastOf_14
      rw [m_isRowN hR2 h1, Option.bind_some, if_pos rfl, zi_at, if_neg le1]
      exact mQ_err n01
theorem s_24 (a : Nat → Int32) (hv : Iv g) : ∃ r, nS_24 a g = some r ∧ Iv r := by
  obtain ⟨S, hc, hm⟩ := hv
  obtain ⟨hO, ⟨hP, hE, hC0, hL, h6, hG⟩, ⟨hR, hH, hz⟩, hT, hWr, hFl, hB⟩ := id hc
  rcases ix2 (a 1) (n := S.2.1.1) (by have := hR.2.1; omega) with ⟨i1, h1, e1⟩ | h1
  · have hC := hC0 (fun q => by have := (hz q).1; omega)
    rcases ix2 (a 2) (n := 2 ^ pn S.1) (by have := p2n hO; omega) with ⟨i2, h2, e2⟩ | h2
    · unfold nS_24
      rw [e1]
      rw [e2]
      refine st_q (L := nL_ways (nI i1) (nI i2)) (M := nX11_ways (nI i1) (nI i2)) (cd := 0) (an := nI (nws S.1 (S.2.1.2.1 i1) i2)) hc hm ?_ ?_
      · obtain ⟨k, w, ak⟩ := e_countWays hO hP hE hC hG (hR.2.2 i1 h1).2 h2
        exact cQ_ls (h := k) (X := nX10_ways (nI i1) (nI i2)) (by unfold nX10_ways; rw [c_needRow hR h1, Option.bind_some, zel_i, c_needSet hO hP h2, Option.bind_some, zel_i, e_codeOf hR h1, Option.bind_some, w, Option.bind_some]) (fr_le kT_Q ak)
      · intro h hm2
        obtain ⟨⟨hM, hF, hNm, hBx⟩, ⟨hR2, hH2⟩, hT2, hW2, hF2⟩ := id hm2
        unfold nX11_ways jX11_ways_26
        rw [m_isRow hR2 h1, Option.bind_some, if_neg n01, m_isSet hO hM h2, Option.bind_some, if_neg n01, zi_at, if_pos (Int32.le_refl 0)]
        have h7 := p2n hO
        rw [m_waysOf hO (mP_sc (sc_42 h 0) hM) (mF_sc (sc_42 h 0) hF) (mR_sc (sc_42 h 0) hR2) h1 (by omega), Option.bind_some, wyN_nws hO (hR.2.2 i1 h1).2]
        exact ⟨_, _, rfl, sc_42 _ _, zi_at _ _ _ _, fun _ => rfl⟩
    · unfold nS_24
      rw [e1]
      refine st_q (L := nL_ways (nI i1) (a 2)) (M := nX11_ways (nI i1) (a 2)) (cd := 2) (an := 0) hc hm ?_ ?_
      · exact cQ_rs (X := nX10_ways (nI i1) (a 2)) (by unfold nX10_ways; rw [c_needRow hR h1, Option.bind_some, zel_i, c_needSetN hO hP h2, Option.bind_some, zel_e]) (fr_rfl _ _) (by rw [if_neg (by decide), if_pos rfl]) n02
      · intro h hm2
        obtain ⟨⟨hM, hF, hNm, hBx⟩, ⟨hR2, hH2⟩, hT2, hW2, hF2⟩ := id hm2
        unfold nX11_ways jX11_ways_26
        rw [m_isRow hR2 h1, Option.bind_some, if_neg n01, m_isSetN hO hM h2, Option.bind_some, if_pos rfl, zi_at, if_neg le2]
        exact mQ_err n02
  · unfold nS_24
    refine st_q (L := nL_ways (a 1) (a 2)) (M := nX11_ways (a 1) (a 2)) (cd := 1) (an := 0) hc hm ?_ ?_
    · exact cQ_rs (X := nX10_ways (a 1) (a 2)) (by unfold nX10_ways; rw [c_needRowN hR h1, Option.bind_some, zel_e]) (fr_rfl _ _) (by rw [if_pos rfl]) n01
    · intro h hm2
      obtain ⟨⟨hM, hF, hNm, hBx⟩, ⟨hR2, hH2⟩, hT2, hW2, hF2⟩ := id hm2
      unfold nX11_ways jX11_ways_26
      rw [m_isRowN hR2 h1, Option.bind_some, if_pos rfl, zi_at, if_neg le1]
      exact mQ_err n01
theorem s_23 (a : Nat → Int32) (hv : Iv g) : ∃ r, nS_23 a g = some r ∧ Iv r := by
  obtain ⟨S, hc, hm⟩ := hv
  obtain ⟨hO, ⟨hP, hE, hC0, hL, h6, hG⟩, ⟨hR, hH, hz⟩, hT, hWr, hFl, hB⟩ := id hc
  rcases ix2 (a 1) (n := S.2.1.1) (by have := hR.2.1; omega) with ⟨i1, h1, e1⟩ | h1
  · have hC := hC0 (fun q => by have := (hz q).1; omega)
    rcases ix2 (a 2) (n := 2 ^ pn S.1) (by have := p2n hO; omega) with ⟨i2, h2, e2⟩ | h2
    · unfold nS_23
      rw [e1]
      rw [e2]
      refine st_qb (L := nL_mends (nI i1) (nI i2)) (M := nX11_mends (nI i1) (nI i2)) (cd := 0) (b := cmd S.1 (S.2.1.2.1 i1) i2) hc hm ?_ ?_
      · exact cQb_l (X := nX10_mends (nI i1) (nI i2)) (by unfold nX10_mends; rw [c_needRow hR h1, Option.bind_some, zel_i, c_needSet hO hP h2, Option.bind_some, zel_i, e_codeOf hR h1, Option.bind_some, e_canMend hO hP hE hC (hR.2.2 i1 h1).2 h2, Option.bind_some, zchk_t (znb_b _)])
      · intro h hm2
        obtain ⟨⟨hM, hF, hNm, hBx⟩, ⟨hR2, hH2⟩, hT2, hW2, hF2⟩ := id hm2
        unfold nX11_mends jX11_mends_26
        rw [m_isRow hR2 h1, Option.bind_some, if_neg n01, m_isSet hO hM h2, Option.bind_some, if_neg n01, zi_at, if_pos rfl]
        have h7 := p2n hO
        have hw := wyN_cmd hO (S := i2) (hR.2.2 i1 h1).2
        have hle : wyN S.1 (S.2.1.2.1 i1) i2 ≤ 3125 := by
          unfold wyN
          split
          · exact cnt_le _ _
          · omega
        rw [m_waysOf hO (mP_sc (sc_42 h 0) hM) (mF_sc (sc_42 h 0) hF) (mR_sc (sc_42 h 0) hR2) h1 (by omega), Option.bind_some]
        cases hcm : cmd S.1 (S.2.1.2.1 i1) i2 with
        | true =>
          have h0 := hw.mpr hcm
          rw [if_neg (show ¬ nI _ ≤ (0 : Int32) by rw [show (0 : Int32) = nI 0 from rfl, nN_le (by omega) (by omega)]; omega)]
          exact ⟨_, _, rfl, sc_42 _ _, zi_at _ _ _ _, fun _ => rfl⟩
        | false =>
          have h0 : wyN S.1 (S.2.1.2.1 i1) i2 = 0 := by
            by_cases q : wyN S.1 (S.2.1.2.1 i1) i2 = 0
            · exact q
            · rw [hw.mp (by omega)] at hcm; cases hcm
          rw [h0, if_pos (show nI 0 ≤ (0 : Int32) from Int32.le_refl _)]
          exact ⟨_, _, rfl, sc_42 _ _, zi_at _ _ _ _, fun _ => rfl⟩
    · unfold nS_23
      rw [e1]
      refine st_qb (L := nL_mends (nI i1) (a 2)) (M := nX11_mends (nI i1) (a 2)) (cd := 2) (b := false) hc hm ?_ ?_
      · exact cQb_r (X := nX10_mends (nI i1) (a 2)) (by unfold nX10_mends; rw [c_needRow hR h1, Option.bind_some, zel_i, c_needSetN hO hP h2, Option.bind_some, zel_e]) (by rw [if_neg (by decide), if_pos rfl]) n02
      · intro h hm2
        obtain ⟨⟨hM, hF, hNm, hBx⟩, ⟨hR2, hH2⟩, hT2, hW2, hF2⟩ := id hm2
        unfold nX11_mends jX11_mends_26
        rw [m_isRow hR2 h1, Option.bind_some, if_neg n01, m_isSetN hO hM h2, Option.bind_some, if_pos rfl, zi_at, if_neg n02]
        exact mQ_err n02
  · unfold nS_23
    refine st_qb (L := nL_mends (a 1) (a 2)) (M := nX11_mends (a 1) (a 2)) (cd := 1) (b := false) hc hm ?_ ?_
    · exact cQb_r (X := nX10_mends (a 1) (a 2)) (by unfold nX10_mends; rw [c_needRowN hR h1, Option.bind_some, zel_e]) (by rw [if_pos rfl]) n01
    · intro h hm2
      obtain ⟨⟨hM, hF, hNm, hBx⟩, ⟨hR2, hH2⟩, hT2, hW2, hF2⟩ := id hm2
      unfold nX11_mends jX11_mends_26
      rw [m_isRowN hR2 h1, Option.bind_some, if_pos rfl, zi_at, if_neg n01]
      exact mQ_err n01
theorem s_27 (a : Nat → Int32) (hv : Iv g) : ∃ r, nS_27 a g = some r ∧ Iv r := by
  obtain ⟨S, hc, hm⟩ := hv
  obtain ⟨hO, ⟨hP, hE, hC0, hL, h6, hG⟩, ⟨hR, hH, hz⟩, hT, hWr, hFl, hB⟩ := id hc
  rcases ix2 (a 1) (n := S.2.1.1) (by have := hR.2.1; omega) with ⟨i1, h1, e1⟩ | h1
  · have hC := hC0 (fun q => by have := (hz q).1; omega)
    rcases ix2 (a 3) (n := pn S.1) (by have := hO.1; omega) with ⟨i3, h3, e3⟩ | h3
    · rcases ix2 (a 2) (n := 2 ^ pn S.1) (by have := p2n hO; omega) with ⟨i2, h2, e2⟩ | h2
      · unfold nS_27
        rw [e1]
        rw [e3]
        rw [e2]
        refine st_q (L := nL_values (nI i1) (nI i2) (nI i3)) (M := nX11_values (nI i1) (nI i2) (nI i3)) (cd := 0) (an := nI (vIn S.1 (S.2.1.2.1 i1) i2 i3)) hc hm ?_ ?_
        · exact cQ_l (X := nX10_values (nI i1) (nI i2) (nI i3)) (by unfold nX10_values; rw [c_needRow hR h1, Option.bind_some, zel_i, c_needField hO hP h3, Option.bind_some, zel_i, c_needSet hO hP h2, Option.bind_some, zel_i, e_codeOf hR h1, Option.bind_some, e_valuesIn hO hP hE hC (hR.2.2 i1 h1).2 h2 h3, Option.bind_some])
        · intro h hm2
          obtain ⟨⟨hM, hF, hNm, hBx⟩, ⟨hR2, hH2⟩, hT2, hW2, hF2⟩ := id hm2
          unfold nX11_values jX11_values_17 jX11_values_34
          rw [m_isRow hR2 h1, Option.bind_some, if_neg n01, m_isField hO hM h3, Option.bind_some, if_neg n01, m_isSet hO hM h2, Option.bind_some, if_neg n01, zi_at, if_pos (Int32.le_refl 0)]
          have h7 := p2n hO
          rw [m_valuesBy hO (mP_sc (sc_42 h 0) hM) (mF_sc (sc_42 h 0) hF) (mR_sc (sc_42 h 0) hR2) h1 (by omega) h3, Option.bind_some]
          exact ⟨_, _, rfl, sc_42 _ _, zi_at _ _ _ _, fun _ => rfl⟩
      · unfold nS_27
        rw [e1]
        rw [e3]
        refine st_q (L := nL_values (nI i1) (a 2) (nI i3)) (M := nX11_values (nI i1) (a 2) (nI i3)) (cd := 2) (an := 0) hc hm ?_ ?_
        · exact cQ_r (X := nX10_values (nI i1) (a 2) (nI i3)) (by unfold nX10_values; rw [c_needRow hR h1, Option.bind_some, zel_i, c_needField hO hP h3, Option.bind_some, zel_i, c_needSetN hO hP h2, Option.bind_some, zel_e]) (by rw [if_neg (by decide), if_pos rfl]) n02
        · intro h hm2
          obtain ⟨⟨hM, hF, hNm, hBx⟩, ⟨hR2, hH2⟩, hT2, hW2, hF2⟩ := id hm2
          unfold nX11_values jX11_values_17 jX11_values_34
          rw [m_isRow hR2 h1, Option.bind_some, if_neg n01, m_isField hO hM h3, Option.bind_some, if_neg n01, m_isSetN hO hM h2, Option.bind_some, if_pos rfl, zi_at, if_neg le2]
          exact mQ_err n02
    · unfold nS_27
      rw [e1]
      refine st_q (L := nL_values (nI i1) (a 2) (a 3)) (M := nX11_values (nI i1) (a 2) (a 3)) (cd := 1) (an := 0) hc hm ?_ ?_
      · exact cQ_r (X := nX10_values (nI i1) (a 2) (a 3)) (by unfold nX10_values; rw [c_needRow hR h1, Option.bind_some, zel_i, c_needFieldN hP h3, Option.bind_some, zel_e]) (by rw [if_pos rfl]) n01
      · intro h hm2
        obtain ⟨⟨hM, hF, hNm, hBx⟩, ⟨hR2, hH2⟩, hT2, hW2, hF2⟩ := id hm2
        unfold nX11_values jX11_values_17 jX11_values_34
        rw [m_isRow hR2 h1, Option.bind_some, if_neg n01, m_isFieldN hO hM h3, Option.bind_some, if_pos rfl, zi_at, if_neg le1]
        exact mQ_err n01
  · unfold nS_27
    refine st_q (L := nL_values (a 1) (a 2) (a 3)) (M := nX11_values (a 1) (a 2) (a 3)) (cd := 1) (an := 0) hc hm ?_ ?_
    · exact cQ_r (X := nX10_values (a 1) (a 2) (a 3)) (by unfold nX10_values; rw [c_needRowN hR h1, Option.bind_some, zel_e]) (by rw [if_pos rfl]) n01
    · intro h hm2
      obtain ⟨⟨hM, hF, hNm, hBx⟩, ⟨hR2, hH2⟩, hT2, hW2, hF2⟩ := id hm2
      unfold nX11_values jX11_values_17 jX11_values_34
      rw [m_isRowN hR2 h1, Option.bind_some, if_pos rfl, zi_at, if_neg le1]
      exact mQ_err n01
end S1
