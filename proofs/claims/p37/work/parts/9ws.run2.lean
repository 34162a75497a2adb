
/-! ===== the class's box calls run, however many boxes there are ===== -/
section Rv
variable {S : zSt} {g h k : zS} {P : zPl}
theorem cU_boxes (hc : cI S g) : ∃ h an, nX10_boxes g = some (an, h) ∧ fz kN g h ∧ cI S h := by
  obtain ⟨h, w, a1, hc1, a2, _⟩ := cI_size hc
  refine ⟨h, nI (nB S.1), ?_, kBx_N a1, hc1⟩
  unfold nX10_boxes
  rw [w, Option.bind_some, zchk_t (decide_eq_true a1.2.2)]
theorem cU_box (hc : cI S g) (x y : Int32) : ∃ cd an, cZ (nL_box x y) S g cd an := by
  have hO := hc.1
  have h5 := hO.1
  have hb : nB S.1 ≤ 923521 := nB_le hO
  rcases ix2 x (n := nB S.1) (by omega) with ⟨i, hi, e1⟩ | hno
  · rw [e1]
    obtain ⟨h1, w, a1, hc1, a2⟩ := e_needBox hc hi
    have hP1 := hc1.2.1.1
    by_cases c : y = -1
    · rw [c]
      refine ⟨0, nI (bS (fun f => bk (bX S.1 i) f != 2 ^ pq S.1 f - 1) (pn S.1)), cZ_ls (X := nX10_box (nI i) (-1)) (h := h1) ?_ (kBx_N a1) hc1⟩
      unfold nX10_box
      rw [w, Option.bind_some]
      dsimp only [zel2]
      rw [zchk_t (decide_eq_true a1.2.2), if_pos rfl, e_entering hO hP1 a2 hi, Option.bind_some]
    · rcases ix2 y (n := pn S.1) (by omega) with ⟨f, hf, e2⟩ | hno2
      · rw [e2]
        rw [e2] at c
        refine ⟨0, nI (bk (bX S.1 i) f), cZ_ls (X := nX10_box (nI i) (nI f)) (h := h1) ?_ (kBx_N a1) hc1⟩
        unfold nX10_box
        rw [w, Option.bind_some]
        dsimp only [zel2]
        rw [zchk_t (decide_eq_true a1.2.2), if_neg c, c_needField hO hP1 hf, Option.bind_some, zel_i, e_setOf hO a2 hi hf, Option.bind_some]
      · refine ⟨2, 0, cZ_rs (X := nX10_box (nI i) y) (h := h1) (e := "java/lang/IndexOutOfBoundsException") ?_ (kBx_N a1) hc1 (by rw [if_neg (by decide), if_pos rfl]) n02⟩
        unfold nX10_box
        rw [w, Option.bind_some]
        dsimp only [zel2]
        rw [zchk_t (decide_eq_true a1.2.2), if_neg c, c_needFieldN hP1 hno2, Option.bind_some, zel_e]
  · obtain ⟨h1, w, a1, hc1⟩ := e_needBoxN hc hno
    refine ⟨1, 0, cZ_rs (X := nX10_box x y) (h := h1) (e := "java/util/NoSuchElementException") ?_ (kBx_N a1) hc1 (by rw [if_pos rfl]) n01⟩
    unfold nX10_box
    rw [w, Option.bind_some]
    dsimp only [zel2]
    rw [zchk_t (decide_eq_true a1.2.2)]
theorem cU_from (hc : cI S g) (x : Int32) : ∃ cd an, cZ (nL_from x) S g cd an := by
  have hO := hc.1
  have hb : nB S.1 ≤ 923521 := nB_le hO
  rcases ix2 x (n := nB S.1) (by omega) with ⟨i, hi, e1⟩ | hno
  · rw [e1]
    obtain ⟨h1, w, a1, hc1, a2⟩ := e_needBox hc hi
    obtain ⟨R, wR, n, eR, hR⟩ := e_fewest hO hc1.2.1.1 hc1.2.1.2.1 a2 hi
    refine ⟨0, nI n, cZ_ls (X := nX10_from (nI i)) (h := h1) ?_ (kBx_N a1) hc1⟩
    unfold nX10_from
    rw [w, Option.bind_some]
    dsimp only [zel2]
    rw [zchk_t (decide_eq_true a1.2.2), wR, Option.bind_some, eR]
  · obtain ⟨h1, w, a1, hc1⟩ := e_needBoxN hc hno
    refine ⟨1, 0, cZ_rs (X := nX10_from x) (h := h1) (e := "java/util/NoSuchElementException") ?_ (kBx_N a1) hc1 (by rw [if_pos rfl]) n01⟩
    unfold nX10_from
    rw [w, Option.bind_some]
    dsimp only [zel2]
    rw [zchk_t (decide_eq_true a1.2.2)]
theorem cU_cover (hc : cI S g) (x : Int32) (own : Bool) : ∃ cd an, cZ (nL_cover x (bI own)) S g cd an := by
  have hO := hc.1
  have hb : nB S.1 ≤ 923521 := nB_le hO
  rcases ix2 x (n := nB S.1) (by omega) with ⟨i, hi, e1⟩ | hno
  · rw [e1]
    obtain ⟨h1, w, a1, hc1, a2⟩ := e_needBox hc hi
    refine ⟨0, nI (cvN S.1 i own), cZ_ls (X := nX10_cover (nI i) (bI own)) (h := h1) ?_ (kBx_N a1) hc1⟩
    unfold nX10_cover
    rw [w, Option.bind_some]
    dsimp only [zel2]
    rw [zchk_t (decide_eq_true a1.2.2)]
    cases own with
    | false => rw [if_pos (show bI false = 0 by decide), e_allFormsB hO hc1.2.1.1 a2 hi, Option.bind_some]
    | true => rw [if_neg (show ¬ bI true = 0 by decide), e_ownForms hO hc1.2.1.1 a2 hi, Option.bind_some]
  · obtain ⟨h1, w, a1, hc1⟩ := e_needBoxN hc hno
    refine ⟨1, 0, cZ_rs (X := nX10_cover x (bI own)) (h := h1) (e := "java/util/NoSuchElementException") ?_ (kBx_N a1) hc1 (by rw [if_pos rfl]) n01⟩
    unfold nX10_cover
    rw [w, Option.bind_some]
    dsimp only [zel2]
    rw [zchk_t (decide_eq_true a1.2.2)]
theorem cU_within (hc : cI S g) (x y : Int32) : ∃ cd an, cZ (nL_within x y) S g cd an := by
  obtain ⟨hO, ⟨hP, hE, hC0, hL, h6, hG⟩, ⟨hR, hH, hz⟩, hT, hWr, hFl, hB⟩ := id hc
  have h40 := hR.2.1
  rcases ix2 x (n := S.2.1.1) (by omega) with ⟨i, hi, e1⟩ | hno
  · rw [e1]
    by_cases full : ∀ f, f < pn S.1 → rv (S.2.1.2.1 i) f ≠ 0
    · obtain ⟨h1, w, a1, hc1, a2, a3⟩ := cI_size hc
      refine ⟨0, if y < 0 then -1 else wtA S.1 (S.2.1.2.1 i) y.toNatClampNeg, cZ_ls (X := nX10_within (nI i) y) (h := h1) ?_ (kBx_N a1) hc1⟩
      unfold nX10_within
      have hna : nX10_needAnswers (nI i) 0 g = some (.inl ()) := c_needAnswers (S := 0) hO hP hR hi ((full_m hO _).mpr full)
      rw [c_needRow hR hi, Option.bind_some, zel_i, hna, Option.bind_some, zel_i, e_codeOf hR hi, Option.bind_some, e_holding hO hP (hR.2.2 i hi).2 full w a1.2.2 a3 a2, Option.bind_some, zchk_t (decide_eq_true a1.2.2)]
    · refine ⟨2, 0, cZ_rs (X := nX10_within (nI i) y) (h := g) (e := "java/lang/IllegalStateException") ?_ (fz_fr (fr_rfl _ _)) hc (by rw [if_neg (by decide), if_pos rfl]) n02⟩
      unfold nX10_within
      have hna : nX10_needAnswers (nI i) 0 g = some (.inr "java/lang/IllegalStateException") := c_needAnswersN (S := 0) hO hP hR hi (by
        rw [← Bool.not_eq_true, full_m hO]
        exact full)
      rw [c_needRow hR hi, Option.bind_some, zel_i, hna, Option.bind_some, zel_e]
  · exact ⟨1, 0, cZ_rs (X := nX10_within x y) (h := g) (by unfold nX10_within; rw [c_needRowN hR hno, Option.bind_some, zel_e]) (fz_fr (fr_rfl _ _)) hc (by rw [if_pos rfl]) n01⟩
theorem cU_blame (hc : cI S g) (x : Int32) : ∃ cd an, cZ (nL_blame x) S g cd an := by
  obtain ⟨hO, ⟨hP, hE, hC0, hL, h6, hG⟩, ⟨hR, hH, hz⟩, hT, hWr, hFl, hB⟩ := id hc
  have h40 := hR.2.1
  rcases ix2 x (n := S.2.1.1) (by omega) with ⟨i, hi, e1⟩ | hno
  · rw [e1]
    by_cases full : ∀ f, f < pn S.1 → rv (S.2.1.2.1 i) f ≠ 0
    · obtain ⟨h1, w, a1, hc1, a2, a3⟩ := cI_size hc
      have hna : nX10_needAnswers (nI i) 0 g = some (.inl ()) := c_needAnswers (S := 0) hO hP hR hi ((full_m hO _).mpr full)
      have hbl := e_blamed hO hP (hR.2.2 i hi).2 full w a1.2.2 a3 hc1.2.1.1 a2
      have hx : nX10_blame (nI i) g = some (.inl (blA S.1 (S.2.1.2.1 i)), if pn S.1 = 0 then g else h1) := by
        unfold nX10_blame
        rw [c_needRow hR hi, Option.bind_some, zel_i, hna, Option.bind_some, zel_i, e_codeOf hR hi, Option.bind_some, hbl, Option.bind_some]
        by_cases z : pn S.1 = 0
        · rw [if_pos z, zchk_t (decide_eq_true (Nat.le_refl _))]
        · rw [if_neg z, zchk_t (decide_eq_true a1.2.2)]
      refine ⟨0, blA S.1 (S.2.1.2.1 i), ?_⟩
      by_cases z : pn S.1 = 0
      · rw [if_pos z] at hx
        exact cZ_ls (X := nX10_blame (nI i)) (h := g) hx (fz_fr (fr_rfl _ _)) hc
      · rw [if_neg z] at hx
        exact cZ_ls (X := nX10_blame (nI i)) (h := h1) hx (kBx_N a1) hc1
    · refine ⟨2, 0, cZ_rs (X := nX10_blame (nI i)) (h := g) (e := "java/lang/IllegalStateException") ?_ (fz_fr (fr_rfl _ _)) hc (by rw [if_neg (by decide), if_pos rfl]) n02⟩
      unfold nX10_blame
      have hna : nX10_needAnswers (nI i) 0 g = some (.inr "java/lang/IllegalStateException") := c_needAnswersN (S := 0) hO hP hR hi (by
        rw [← Bool.not_eq_true, full_m hO]
        exact full)
      rw [c_needRow hR hi, Option.bind_some, zel_i, hna, Option.bind_some, zel_e]
  · exact ⟨1, 0, cZ_rs (X := nX10_blame x) (h := g) (by unfold nX10_blame; rw [c_needRowN hR hno, Option.bind_some, zel_e]) (fz_fr (fr_rfl _ _)) hc (by rw [if_pos rfl]) n01⟩
/-- a call of both, whose answers nobody compares -/
theorem st_u {L M : zS → Option (Int32 × zS)} {cd an : Int32} (hm : rI S g) (q1 : cZ L S g cd an) (q2 : mU M S) : ∃ r, ((L g).bind fun v1 => zchk (decide (g.2.2.2 ≤ v1.2.2.2.2)) ((M v1.2).bind fun v2 => zchk (decide (v2.2.2.2.2 = v1.2.2.2.2)) (some v2.2))) = some r ∧ Iv r := by
  obtain ⟨h, w1, a1, hc1, a2⟩ := q1
  have hm1 : rI S h := rI_fz (K := kN) (fun c h1 h2 => kN_R h1 h2) a1 hm
  obtain ⟨k, an', w2, b1, hm2⟩ := q2 h hm1
  refine ⟨k, ?_, S, cI_fr kQ_R b1 hc1, hm2⟩
  rw [w1, Option.bind_some, zchk_t (decide_eq_true a1.2.2)]
  dsimp only
  rw [w2, Option.bind_some, zchk_t (decide_eq_true b1.2.2)]
end Rv
