
/-! ===== steps: more queries ===== -/
section S2
variable {g h : zS} {P : zPl} {N : Nat} {r : Nat → Nat}
theorem kDn_Q : ∀ c, (kQ c && kN c) = false → kDn c = false := fun c hc => by
  cases q : kDn c with
  | false => rfl
  | true =>
    unfold kDn at q
    rw [Bool.and_eq_true, decide_eq_true_eq, decide_eq_true_eq] at q
    have hd : ∀ c, c < 37 → 34 ≤ c → (kQ c && kN c) = true := by decide
    rw [hd c (by omega) q.1] at hc
    cases hc
theorem k38_Q : ∀ c, (kQ c && kN c) = false → k38 c = false := fun c hc => by
  cases q : k38 c with
  | false => rfl
  | true => rw [beq_iff_eq.mp q] at hc; cases hc
theorem k389_Q : ∀ c, (kQ c && kN c) = false → k389 c = false := fun c hc => by
  cases q : k389 c with
  | false => rfl
  | true =>
    unfold k389 at q
    rw [Bool.or_eq_true, beq_iff_eq, beq_iff_eq] at q
    rcases q with rfl | rfl <;> cases hc
theorem ls_rgt (hO : pOK P) {c : Nat} (hc : rOK P c) (h : rgt P c = true) : ls P c = 0 := by
  have hf := rgt_full h
  have hw : way P c 0 (fun f => rv c f - 1) := ⟨fun f hfn => (by have := hc.2.1 f hfn; have := hf f hfn; show rv c f - 1 < pq P f; omega), fun f hfn _ => (by have := hf f hfn; show rv c f = rv c f - 1 + 1; omega), by
    unfold rgt at h
    rw [Bool.and_eq_true, beq_iff_eq, beq_iff_eq, lft_full hf] at h
    exact h.2⟩
  have hpos := Nat.two_pow_pos (pn P)
  have hm := (cmd_iff hO hc).mpr ⟨_, hw⟩
  rcases ls_spec hO c with ⟨q1, q2⟩ | ⟨q1, q2, q3⟩
  · rw [q2 0 hpos] at hm; cases hm
  · have h0 := q3 0 hpos hm
    have e1 : wSum P 0 (pn P) = 0 := by
      have go : ∀ n, wSum P 0 n = 0 := by
        intro n
        induction n with
        | zero => rfl
        | succ n ih =>
          show (if (0 : Nat).testBit n then wSum P 0 n + pw P n else wSum P 0 n) = 0
          rw [Nat.zero_testBit, if_neg (by decide)]
          exact ih
      exact go _
    have e2 : pcn 0 = 0 := by decide
    unfold kO at h0
    rw [e1, e2] at h0
    omega
theorem m_changes30 (hO : pOK P) (hM : mP P g) (hF : mF P g) (hR : mR P N r g) {f : Nat} (hf : f < pn P) : ∃ k, wh (wX11_changes_30 (nI f)) ((0 : Int32), (0 : Int32), g) = some (nI (cnt (fun k => ls P (r k) != 99 && (ls P (r k)).testBit f) N), k) ∧ sc g k ∧ k.1 42 0 = g.1 42 0 := by
  have h5 := hO.1
  have h7 := p2n hO
  have hN := hR.2.1
  obtain ⟨⟨r1, r2⟩, w, q1, q2, q3⟩ := wh_up (step := wX11_changes_30 (nI f)) (fun i (s : Int32 × Int32 × zS) => s.1 = nI (cnt (fun k => ls P (r k) != 99 && (ls P (r k)).testBit f) i) ∧ s.2.1 = nI i ∧ sc g s.2.2 ∧ s.2.2.1 42 0 = g.1 42 0) (fun rr : Int32 × zS => rr.1 = nI (cnt (fun k => ls P (r k) != 99 && (ls P (r k)).testBit f) N) ∧ sc g rr.2 ∧ rr.2.1 42 0 = g.1 42 0) N (fun i s hi hI => by
    obtain ⟨i1, i2, i3, i4⟩ := hI
    obtain ⟨s1, s2, s3⟩ := s
    dsimp only at i1 i2 i3 i4
    have hM2 := mP_sc i3 hM
    have hF2 := mF_sc i3 hF
    have hR2 := mR_sc i3 hR
    dsimp only [wX11_changes_30]
    rw [i2, hR2.1, if_neg (by rw [nN_le (by omega) (by omega)]; omega), m_passesRow hO hM2 hF2 hR2 hi, Option.bind_some, i1, nI_s i, cnt_s]
    cases hrg : rgt P (r i) with
    | true =>
      rw [if_neg (show ¬ (if true = true then (1 : Int32) else 0) = 0 by decide), ls_rgt hO (hR.2.2 i hi).2 hrg, Nat.zero_testBit]
      exact ⟨_, rfl, rfl, rfl, i3, i4⟩
    | false =>
      have c1 : sc s3 (zi s3 42 36 (nI (lmN P (r i) (ls P (r i)) (2 ^ pn P)))) := sc_zi rfl _ _
      have c2 : (zi s3 42 36 (nI (lmN P (r i) (ls P (r i)) (2 ^ pn P)))).1 42 0 = s3.1 42 0 := zi_else _ _ (by decide)
      rw [if_pos (show (if false = true then (1 : Int32) else 0) = 0 by decide), m_lightest hO hM2 hF2 hR2 hi, Option.bind_some]
      dsimp only
      unfold sI
      rcases ls_spec hO (r i) with ⟨q1, _⟩ | ⟨q1, _⟩
      · rw [q1] at c1 c2 ⊢
        rw [if_pos rfl, if_pos rfl, Int32.add_zero]
        exact ⟨_, rfl, rfl, rfl, sc_tr i3 c1, c2.trans i4⟩
      · have h9 : ¬ ls P (r i) = 99 := by omega
        rw [if_neg h9, if_neg (show ¬ nI (ls P (r i)) = (-1 : Int32) from fun q => by rw [nI_m1, nN_eqm (by omega)] at q; exact q), m_has (by omega) (by omega), Option.bind_some, show (ls P (r i) != 99) = true by simp [h9], Bool.true_and]
        cases (ls P (r i)).testBit f with
        | true =>
          rw [if_neg (show ¬ (if true = true then (1 : Int32) else 0) = 0 by decide), nI_s, if_pos rfl]
          exact ⟨_, rfl, rfl, rfl, sc_tr i3 c1, c2.trans i4⟩
        | false =>
          rw [if_pos (show (if false = true then (1 : Int32) else 0) = 0 by decide), Int32.add_zero, if_neg (by decide)]
          exact ⟨_, rfl, rfl, rfl, sc_tr i3 c1, c2.trans i4⟩) (fun s hI => by
    obtain ⟨i1, i2, i3, i4⟩ := hI
    obtain ⟨s1, s2, s3⟩ := s
    dsimp only at i1 i2 i3 i4
    have hR2 := mR_sc i3 hR
    dsimp only [wX11_changes_30]
    rw [i2, hR2.1, if_pos (Int32.le_refl _)]
    exact ⟨_, rfl, i1, i3, i4⟩) (s := ((0 : Int32), (0 : Int32), g)) ⟨rfl, rfl, sc_rfl g, rfl⟩
  dsimp only at q1 q2 q3
  subst q1
  exact ⟨r2, w, q2, q3⟩
/-- the digits of a row mended, on both sides -/
theorem m_would50 (hO : pOK P) (hM : mP P g) {m : Nat} (hm : m ≠ 99999 → rOK P m ∧ ∀ f, f < pn P → rv m f ≠ 0) : wh (wX11_would_50 (mmI P m) g) ((0 : Int32), (0 : Int32)) = some (if m = 99999 then -1 else nI (dgt m (pn P)), g) := by
  have h5 := hO.1
  unfold mmI
  by_cases c : m = 99999
  · rw [if_pos c, if_pos c]
    refine wh_seq (fun i => ((0 : Int32), nI i)) (pn P) (fun i hi => ?_) ?_
    · dsimp only [wX11_would_50]
      rw [hM.1, if_neg (by rw [nN_le (by omega) (by omega)]; omega), if_pos rfl, nI_s]
      rfl
    · dsimp only [wX11_would_50]
      rw [hM.1, if_pos (Int32.le_refl _), if_pos rfl]
      rfl
  · obtain ⟨o1, o2⟩ := hm c
    rw [if_neg c, if_neg c]
    have hd : ∀ f, f < pn P → rv m f - 1 < 5 := fun f hf => by have := o1.2.1 f hf; have := (hO.2.1 f hf).2.1; omega
    obtain ⟨v1, v2⟩ := vo_fno (a := fun f => rv m f - 1) h5 hd
    have hne : ¬ nI (fno (fun f => rv m f - 1) (pn P)) = (-1 : Int32) := fun q => by rw [nI_m1, nN_eqm (by omega)] at q; exact q
    refine wh_seq (fun i => (nI (dgt m i), nI i)) (pn P) (fun i hi => ?_) ?_
    · dsimp only [wX11_would_50]
      rw [hM.1, if_neg (by rw [nN_le (by omega) (by omega)]; omega), if_neg hne, m_valueOf hM (by omega) (by omega), Option.bind_some, v2 i (by omega), if_pos hi, nI_s, show (10 : Int32) = nI 10 from rfl, nI_mul, nN_add, Nat.mul_comm]
      rfl
    · dsimp only [wX11_would_50]
      rw [hM.1, if_pos (Int32.le_refl _), if_neg hne]
      rfl
theorem s_39 (a : Nat → Int32) (hv : Iv g) : ∃ r, nS_39 a g = some r ∧ Iv r := by
  obtain ⟨S, hc, hm⟩ := hv
  obtain ⟨hO, ⟨hP, hE, hC0, hL, h6, hG⟩, ⟨hR, hH, hz⟩, hT, hWr, hFl, hB⟩ := id hc
  rcases ix2 (a 1) (n := S.2.1.1) (by have := hR.2.1; omega) with ⟨i1, h1, e1⟩ | h1
  · have hC := hC0 (fun q => by have := (hz q).1; omega)
    rcases ix2 (a 2) (n := S.2.1.1) (by have := hR.2.1; omega) with ⟨i2, h2, e2⟩ | h2
    · unfold nS_39
      rw [e1]
      rw [e2]
      refine st_q (L := nL_near (nI i1) (nI i2)) (M := nX11_near (nI i1) (nI i2)) (cd := 0) (an := nI (far S.1 (S.2.1.2.1 i1) (S.2.1.2.1 i2) 0 (pn S.1))) hc hm ?_ ?_
      · exact cQ_l (X := nX10_near (nI i1) (nI i2)) (by unfold nX10_near; rw [c_needRow hR h1, Option.bind_some, zel_i, c_needRow hR h2, Option.bind_some, zel_i, e_codeOf hR h1, Option.bind_some, e_codeOf hR h2, Option.bind_some, show (0 : Int32) = nI 0 from rfl, e_farApart hO hP (hR.2.2 i1 h1).2 (hR.2.2 i2 h2).2, Option.bind_some])
      · intro h hm2
        obtain ⟨⟨hM, hF, hNm, hBx⟩, ⟨hR2, hH2⟩, hT2, hW2, hF2⟩ := id hm2
        unfold nX11_near jX11_near_21 jX11_near_22
        rw [m_isRow hR2 h1, Option.bind_some, if_neg n01, m_isRow hR2 h2, Option.bind_some, if_neg n01, zi_at, if_pos (Int32.le_refl 0)]
        have e9 : nX11_farBy (nI i1) (nI i2) 0 (zi h 42 0 0) = some (nI (far S.1 (S.2.1.2.1 i1) (S.2.1.2.1 i2) 0 (pn S.1))) := m_farBy (S := 0) hO (mP_sc (sc_42 h 0) hM) (mR_sc (sc_42 h 0) hR2) h1 h2 (by omega)
        rw [e9, Option.bind_some]
        exact ⟨_, _, rfl, sc_42 _ _, zi_at _ _ _ _, fun _ => rfl⟩
    · unfold nS_39
      rw [e1]
      refine st_q (L := nL_near (nI i1) (a 2)) (M := nX11_near (nI i1) (a 2)) (cd := 1) (an := 0) hc hm ?_ ?_
      · exact cQ_r (X := nX10_near (nI i1) (a 2)) (by unfold nX10_near; rw [c_needRow hR h1, Option.bind_some, zel_i, c_needRowN hR h2, Option.bind_some, zel_e]) (by rw [if_pos rfl]) n01
      · intro h hm2
        obtain ⟨⟨hM, hF, hNm, hBx⟩, ⟨hR2, hH2⟩, hT2, hW2, hF2⟩ := id hm2
        unfold nX11_near jX11_near_21 jX11_near_22
        rw [m_isRow hR2 h1, Option.bind_some, if_neg n01, m_isRowN hR2 h2, Option.bind_some, if_pos rfl, zi_at, if_neg le1]
        exact mQ_err n01
  · unfold nS_39
    refine st_q (L := nL_near (a 1) (a 2)) (M := nX11_near (a 1) (a 2)) (cd := 1) (an := 0) hc hm ?_ ?_
    · exact cQ_r (X := nX10_near (a 1) (a 2)) (by unfold nX10_near; rw [c_needRowN hR h1, Option.bind_some, zel_e]) (by rw [if_pos rfl]) n01
    · intro h hm2
      obtain ⟨⟨hM, hF, hNm, hBx⟩, ⟨hR2, hH2⟩, hT2, hW2, hF2⟩ := id hm2
      unfold nX11_near jX11_near_21 jX11_near_22
      rw [m_isRowN hR2 h1, Option.bind_some, if_pos rfl, zi_at, if_neg le1]
      exact mQ_err n01
theorem s_41 (a : Nat → Int32) (hv : Iv g) : ∃ r, nS_41 a g = some r ∧ Iv r := by
  obtain ⟨S, hc, hm⟩ := hv
  obtain ⟨hO, ⟨hP, hE, hC0, hL, h6, hG⟩, ⟨hR, hH, hz⟩, hT, hWr, hFl, hB⟩ := id hc
  rcases ix2 (a 1) (n := pn S.1) (by have := hO.1; omega) with ⟨i1, h1, e1⟩ | h1
  · have hC := hC0 (by omega)
    unfold nS_41
    rw [e1]
    refine st_q (L := nL_changes (nI i1)) (M := nX11_changes (nI i1)) (cd := 0) (an := nI (cnt (fun k => ls S.1 (S.2.1.2.1 k) != 99 && (ls S.1 (S.2.1.2.1 k)).testBit i1) S.2.1.1)) hc hm ?_ ?_
    · exact cQ_l (X := nX10_changes (nI i1)) (by unfold nX10_changes; rw [c_needField hO hP h1, Option.bind_some, zel_i, e_countChanges hO hP hE hC hL hR h1, Option.bind_some])
    · intro h hm2
      obtain ⟨⟨hM, hF, hNm, hBx⟩, ⟨hR2, hH2⟩, hT2, hW2, hF2⟩ := id hm2
      unfold nX11_changes jX11_changes_14
      rw [m_isField hO hM h1, Option.bind_some, if_neg n01, zi_at, if_pos (Int32.le_refl 0)]
      obtain ⟨k, w, k1, k2⟩ := m_changes30 hO (mP_sc (sc_42 h 0) hM) (mF_sc (sc_42 h 0) hF) (mR_sc (sc_42 h 0) hR2) h1
      rw [w]
      exact ⟨_, _, rfl, sc_tr (sc_42 h 0) k1, k2.trans (zi_at _ _ _ _), fun _ => rfl⟩
  · unfold nS_41
    refine st_q (L := nL_changes (a 1)) (M := nX11_changes (a 1)) (cd := 1) (an := 0) hc hm ?_ ?_
    · exact cQ_r (X := nX10_changes (a 1)) (by unfold nX10_changes; rw [c_needFieldN hP h1, Option.bind_some, zel_e]) (by rw [if_pos rfl]) n01
    · intro h hm2
      obtain ⟨⟨hM, hF, hNm, hBx⟩, ⟨hR2, hH2⟩, hT2, hW2, hF2⟩ := id hm2
      unfold nX11_changes jX11_changes_14
      rw [m_isFieldN hO hM h1, Option.bind_some, if_pos rfl, zi_at, if_neg le1]
      exact mQ_err n01
theorem s_31 (a : Nat → Int32) (hv : Iv g) : ∃ r, nS_31 a g = some r ∧ Iv r := by
  obtain ⟨S, hc, hm⟩ := hv
  obtain ⟨hO, ⟨hP, hE, hC0, hL, h6, hG⟩, ⟨hR, hH, hz⟩, hT, hWr, hFl, hB⟩ := id hc
  rcases ix2 (a 1) (n := S.2.1.1) (by have := hR.2.1; omega) with ⟨i1, h1, e1⟩ | h1
  · have hC := hC0 (fun q => by have := (hz q).1; omega)
    rcases ix2 (a 2) (n := 3) (by omega) with ⟨i2, h2, e2⟩ | h2
    · unfold nS_31
      rw [e1]
      rw [e2]
      refine st_q (L := nL_would (nI i1) (nI i2)) (M := nX11_would (nI i1) (nI i2)) (cd := 0) (an := if mdd S.1 S.2.1.2.1 S.2.1.1 i1 i2 = 99999 then -1 else nI (dgt (mdd S.1 S.2.1.2.1 S.2.1.1 i1 i2) (pn S.1))) hc hm ?_ ?_
      · obtain ⟨k, w, ak⟩ := e_mended hO hP hE hC hL hR h1 (show i2 ≤ 2 by omega)
        have hok := mdd_ok (way := i2) hO h1 (fun k hk => (hR.2.2 k hk).2)
        have hP2 := cP_fr (K := kDn) ⟨rfl, rfl, rfl, rfl, rfl, rfl, rfl⟩ ak hP
        refine cQ_ls (h := k) (X := nX10_would (nI i1) (nI i2)) ?_ (fr_le kDn_Q ak)
        unfold nX10_would
        rw [c_needRow hR h1, Option.bind_some, zel_i, c_needWay h2, Option.bind_some, zel_i, w, Option.bind_some]
        unfold mI
        by_cases c : mdd S.1 S.2.1.2.1 S.2.1.1 i1 i2 = 99999
        · rw [if_pos c, if_pos c, if_pos rfl]
        · obtain ⟨o1, o2⟩ := hok c
          have := o1.1
          rw [if_neg c, if_neg c, if_neg (show ¬ nI _ = (-1 : Int32) from fun q => by rw [nI_m1, nN_eqm (by omega)] at q; exact q)]
          dsimp only
          rw [hP2.1, e_toDigits o1.1 hO.1 o2, Option.bind_some]
      · intro h hm2
        obtain ⟨⟨hM, hF, hNm, hBx⟩, ⟨hR2, hH2⟩, hT2, hW2, hF2⟩ := id hm2
        unfold nX11_would jX11_would_25
        rw [m_isRow hR2 h1, Option.bind_some, if_neg n01, m_isWay h2, Option.bind_some, if_neg n01, zi_at, if_pos (Int32.le_refl 0)]
        obtain ⟨k, w, k1, k2⟩ := m_mended hO (mP_sc (sc_42 h 0) hM) (mF_sc (sc_42 h 0) hF) (mR_sc (sc_42 h 0) hR2) h1 (show i2 ≤ 2 by omega)
        rw [w, Option.bind_some]
        dsimp only
        rw [m_would50 hO (mP_sc k1 (mP_sc (sc_42 h 0) hM)) (mdd_ok (way := i2) hO h1 (fun k hk => (hR.2.2 k hk).2))]
        exact ⟨_, _, rfl, sc_tr (sc_42 h 0) k1, k2.trans (zi_at _ _ _ _), fun _ => rfl⟩
    · unfold nS_31
      rw [e1]
      refine st_q (L := nL_would (nI i1) (a 2)) (M := nX11_would (nI i1) (a 2)) (cd := 2) (an := 0) hc hm ?_ ?_
      · exact cQ_rs (X := nX10_would (nI i1) (a 2)) (by unfold nX10_would; rw [c_needRow hR h1, Option.bind_some, zel_i, c_needWayN h2, Option.bind_some, zel_e]) (fr_rfl _ _) (by rw [if_neg (by decide), if_pos rfl]) n02
      · intro h hm2
        obtain ⟨⟨hM, hF, hNm, hBx⟩, ⟨hR2, hH2⟩, hT2, hW2, hF2⟩ := id hm2
        unfold nX11_would jX11_would_25
        rw [m_isRow hR2 h1, Option.bind_some, if_neg n01, m_isWayN h2, Option.bind_some, if_pos rfl, zi_at, if_neg le2]
        exact mQ_err n02
  · unfold nS_31
    refine st_q (L := nL_would (a 1) (a 2)) (M := nX11_would (a 1) (a 2)) (cd := 1) (an := 0) hc hm ?_ ?_
    · exact cQ_rs (X := nX10_would (a 1) (a 2)) (by unfold nX10_would; rw [c_needRowN hR h1, Option.bind_some, zel_e]) (fr_rfl _ _) (by rw [if_pos rfl]) n01
    · intro h hm2
      obtain ⟨⟨hM, hF, hNm, hBx⟩, ⟨hR2, hH2⟩, hT2, hW2, hF2⟩ := id hm2
      unfold nX11_would jX11_would_25
      rw [m_isRowN hR2 h1, Option.bind_some, if_pos rfl, zi_at, if_neg le1]
      exact mQ_err n01
theorem s_29 (a : Nat → Int32) (hv : Iv g) : ∃ r, nS_29 a g = some r ∧ Iv r := by
  obtain ⟨S, hc, hm⟩ := hv
  obtain ⟨hO, ⟨hP, hE, hC0, hL, h6, hG⟩, ⟨hR, hH, hz⟩, hT, hWr, hFl, hB⟩ := id hc
  unfold nS_29
  have hu : ∃ k, nX4_urgentAt (a 1) g = some (if fstB (urB S.1 S.2.1.1 S.2.1.2.1 (a 1)) S.2.1.1 < S.2.1.1 then nI (fstB (urB S.1 S.2.1.1 S.2.1.2.1 (a 1)) S.2.1.1) else -1, k) ∧ fr k38 g k := by
    by_cases h0 : pn S.1 = 0
    · have hN0 := (hz h0).1
      refine ⟨g, ?_, fr_rfl _ _⟩
      rw [if_neg (by omega)]
      unfold nX4_urgentAt
      have r1 : g.1 31 1 = 0 := by rw [hR.1, hN0]; rfl
      refine wh_out ?_
      dsimp only [wX4_urgentAt_2]
      rw [r1, if_pos (Int32.le_refl _)]
      have e9 : wh (wX4_urgentAt_40 (a 1) g) (0 : Int32) = some (-1, g) := wh_out (by
        dsimp only [wX4_urgentAt_40]
        rw [r1, if_pos (Int32.le_refl _)]
        rfl)
      rw [e9]
      rfl
    · exact e_urgentAt hO hP hE (hC0 h0) hL hR (a 1)
  obtain ⟨k, w, ak⟩ := hu
  refine st_d (L := nX10_urgent (a 1)) (M := nX11_urgent (a 1)) hc hm ⟨k, by unfold nX10_urgent; rw [w, Option.bind_some], fr_le k38_Q ak⟩ (fun h hm2 => ?_)
  obtain ⟨⟨hM, hF, hNm, hBx⟩, ⟨hR2, hH2⟩, hT2, hW2, hF2⟩ := id hm2
  obtain ⟨k, w, k1, _⟩ := m_urgent hO hM hF hR2 (a 1)
  exact ⟨k, w, k1⟩
theorem s_12 (a : Nat → Int32) (hv : Iv g) : ∃ r, nS_12 a g = some r ∧ Iv r := by
  obtain ⟨S, hc, hm⟩ := hv
  obtain ⟨hO, ⟨hP, hE, hC0, hL, h6, hG⟩, ⟨hR, hH, hz⟩, hT, hWr, hFl, hB⟩ := id hc
  have h5 := hO.1
  unfold nS_12
  refine st_p (L := nX10_passing) (M := nX11_passing) (an := nI (pqs S.1)) hc hm (by unfold nX10_passing; rw [h6]) (fun h hm2 => ?_)
  obtain ⟨⟨hM, hF, hNm, hBx⟩, ⟨hR2, hH2⟩, hT2, hW2, hF2⟩ := id hm2
  have hMz := mP_sc (sc_42 h 0) hM
  have hFz := mF_sc (sc_42 h 0) hF
  refine ⟨zi h 42 0 0, ?_, sc_42 h 0⟩
  unfold nX11_passing
  by_cases h0 : pn S.1 = 0
  · unfold pqs
    rw [if_pos h0]
    refine wh_out ?_
    dsimp only [wX11_passing_9]
    rw [if_neg (by decide), hMz.1, h0, if_pos (show nI 0 ≤ (0 : Int32) from Int32.le_refl _)]
    rfl
  · unfold pqs
    rw [if_neg h0, ← pss_cnt hO]
    refine wh_seq (fun x => (nI (cnt (psF S.1) x), nI x)) 3125 (fun x hx => ?_) ?_
    · dsimp only [wX11_passing_9]
      rw [if_neg (by rw [show (3125 : Int32) = nI 3125 from rfl, nN_le (by omega) (by omega)]; omega), hMz.1, if_neg (show ¬ nI (pn S.1) ≤ (0 : Int32) by rw [show (0 : Int32) = nI 0 from rfl, nN_le (by omega) (by omega)]; omega), m_passes hO hFz hx, Option.bind_some, nI_s x, cnt_s]
      cases psF S.1 x with
      | true => rw [if_neg (show ¬ (if true = true then (1 : Int32) else 0) = 0 by decide), nI_s, if_pos rfl]
      | false => rw [if_pos (show (if false = true then (1 : Int32) else 0) = 0 by decide), Int32.add_zero, if_neg (by decide)]
    · dsimp only [wX11_passing_9]
      rw [if_pos (show (3125 : Int32) ≤ nI 3125 from Int32.le_refl _)]
      rfl
theorem s_3 (a : Nat → Int32) (hv : Iv g) : ∃ r, nS_3 a g = some r ∧ Iv r := by
  obtain ⟨S, hc, hm⟩ := hv
  obtain ⟨hO, _, _, hT, hWr, hFl, hB⟩ := id hc
  unfold nS_3
  refine st_p (L := nX10_fault) (M := nX11_fault) (an := fI S.2.2.2.2.2.2) hc hm (by unfold nX10_fault; rw [hFl]) (fun h hm2 => ?_)
  obtain ⟨_, _, _, _, hF2⟩ := id hm2
  refine ⟨zi h 42 0 0, ?_, sc_42 h 0⟩
  unfold nX11_fault
  rw [zi_else _ _ (by decide), hF2]
end S2
