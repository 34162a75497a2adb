
/-! ===== steps: within, blame ===== -/
section S22
variable {S S' : zSt} {g h k : zS} {P : zPl} {N : Nat} {r : Nat → Nat}
theorem sub_s2 (a b : Int32) : a - (b + 1) = (a - b) + (-1 : Int32) := by
  rw [Int32.sub_eq_add_neg, Int32.neg_add, Int32.sub_eq_add_neg, Int32.sub_eq_add_neg, Int32.add_assoc]
theorem full_m (hO : pOK P) (c : Nat) : mSb c 0 (pn P) = true ↔ ∀ f, f < pn P → rv c f ≠ 0 := by
  rw [mSb_iff hO.1]
  constructor
  · intro h f hf q
    have := h f hf q
    rw [Nat.zero_testBit] at this
    cases this
  · intro h f hf q
    exact absurd q (h f hf)
theorem m_within47 (hBD : BD P) (hO : pOK P) (hM : mP P g) (hR : mR P N r g) (hL : mL P 33554432 g) {j : Nat} (hj : j < N) (x : Int32) : wh (wX11_within_47 (nI j) x g) (x, (0 : Int32)) = some ((if x < 0 then -1 else wtA P (r j) x.toNatClampNeg), g) := by
  have hb : nB P ≤ 30000 := hBD 33554432 (Nat.le_refl _)
  have hn := (mL_n hBD hO hL).1
  have hc := (hR.2.2 j hj).2
  have hlt := (vo_fno (a := fun f => rv (r j) f - 1) hO.1 (fun e he => by have := hc.2.1 e he; have := (hO.2.1 e he).2.1; omega)).1
  by_cases cx : x < 0
  · rw [if_pos cx]
    refine wh_out ?_
    dsimp only [wX11_within_47]
    by_cases q : g.1 42 29 ≤ 0
    · rw [if_pos q]; rfl
    · rw [if_neg q, if_pos cx]; rfl
  · rw [if_neg cx]
    obtain ⟨t, ht, ex⟩ : ∃ t, t < 2147483648 ∧ x = nI t := by
      rcases ix2 x (n := 2147483647) (by omega) with ⟨i, hi, e⟩ | hno
      · exact ⟨i, by omega, e⟩
      · refine ⟨2147483647, by omega, ?_⟩
        rcases hno with q | q
        · exact absurd q cx
        · exact Int32.le_antisymm (Int32.le_maxValue _) q.2
    subst ex
    rw [nI_cl ht]
    have stp : ∀ i, i < nB P → ∀ n : Int32, wX11_within_47 (nI j) (nI t) g (n, nI i) = if hlB P (r j) i = true then (if n = 0 then some (.inr (nI i, g)) else some (.inl (n + (-1 : Int32), nI (i + 1)))) else some (.inl (n, nI (i + 1))) := fun i hi n => by
      dsimp only [wX11_within_47]
      rw [hn, if_neg (fun q => by rw [nN_le (by omega) (by omega)] at q; omega), if_neg cx, m_formOf hO hM hR hj, Option.bind_some, m_isInBox hBD hO hM hL hlt hi, Option.bind_some, hl_form hO hc hi]
      cases hlB P (r j) i with
      | true =>
        rw [if_neg (show ¬ (if true = true then (1 : Int32) else 0) = 0 by decide), if_pos rfl]
        by_cases q : n = 0
        · rw [if_pos q, if_pos q]; rfl
        · rw [if_neg q, if_neg q, nI_s]
      | false => rw [if_pos (show (if false = true then (1 : Int32) else 0) = 0 by decide), if_neg (by decide), nI_s]
    have eq0 : ∀ i, i ≤ 30000 → (nI t - nI (cnt (hlB P (r j)) i) = 0 ↔ cnt (hlB P (r j)) i = t) := fun i hi => by
      have hle := hl_le P (r j) i
      constructor
      · intro e
        have e2 : nI t = nI (cnt (hlB P (r j)) i) := by
          have := congrArg (fun z => z + nI (cnt (hlB P (r j)) i)) e
          rw [Int32.sub_add_cancel, Int32.zero_add] at this
          exact this
        exact ((nN_eq ht (by omega)).mp e2).symm
      · intro e
        rw [e, Int32.sub_self]
    have key := wh_fsB (step := wX11_within_47 (nI j) (nI t) g) (wtP P (r j) t) (nB P) (fun i => (nI t - nI (cnt (hlB P (r j)) i), nI i)) (-1, g) (fun i => (nI i, g)) (fun i hi hp => ?_) (fun i hi hp => ?_) ?_
    · rw [show (nI t, (0 : Int32)) = (nI t - nI (cnt (hlB P (r j)) 0), nI 0) from by rw [show nI (cnt (hlB P (r j)) 0) = 0 from rfl, Int32.sub_zero]; rfl, key]
      unfold wtA
      by_cases q : fstB (wtP P (r j) t) (nB P) < nB P
      · rw [if_pos q, if_pos q]
      · rw [if_neg q, if_neg q]
    · rw [stp i hi, hl_s]
      by_cases q2 : hlB P (r j) i = true
      · have q3 : cnt (hlB P (r j)) i ≠ t := fun e => by
          unfold wtP at hp
          rw [q2, e, beq_self_eq_true] at hp
          cases hp
        rw [if_pos q2, if_pos q2, if_neg (fun e => q3 ((eq0 i (by omega)).mp e)), ← nI_s (cnt (hlB P (r j)) i), sub_s2]
      · rw [if_neg q2, if_neg q2]
    · unfold wtP at hp
      rw [Bool.and_eq_true, beq_iff_eq] at hp
      rw [stp i hi, if_pos hp.1, if_pos ((eq0 i (by omega)).mpr hp.2)]
    · dsimp only [wX11_within_47]
      rw [hn, if_pos (Int32.le_refl _)]
      rfl
theorem s_19 (hBD : ∀ S, cI S g → BD S.1) (a : Nat → Int32) (hv : Iv g) : ∃ r, nS_19 a g = some r ∧ Iv r := by
  obtain ⟨S, hc, hm⟩ := hv
  replace hBD := hBD S hc
  obtain ⟨hO, ⟨hP, hE, hC0, hL, h6, hG⟩, ⟨hR, hH, hz⟩, hT, hWr, hFl, hB⟩ := id hc
  have h40 := hR.2.1
  unfold nS_19
  rcases ix2 (a 1) (n := S.2.1.1) (by omega) with ⟨i, hi, e1⟩ | hno
  · rw [e1]
    by_cases full : ∀ f, f < pn S.1 → rv (S.2.1.2.1 i) f ≠ 0
    · refine st_z (S := S) (L := nL_within (nI i) (a 2)) (M := nX11_within (nI i) (a 2)) (cd := 0) (an := if a 2 < 0 then -1 else wtA S.1 (S.2.1.2.1 i) (a 2).toNatClampNeg) hm ?_ (fun h hm2 => ?_)
      · obtain ⟨h1, w, a1, hc1, a2, a3⟩ := cI_size hc
        refine cZ_ls (X := nX10_within (nI i) (a 2)) (h := h1) ?_ (kBx_N a1) hc1
        unfold nX10_within
        have hna : nX10_needAnswers (nI i) 0 g = some (.inl ()) := c_needAnswers (S := 0) hO hP hR hi ((full_m hO _).mpr full)
        rw [c_needRow hR hi, Option.bind_some, zel_i, hna, Option.bind_some, zel_i, e_codeOf hR hi, Option.bind_some, e_holding hO hP (hR.2.2 i hi).2 full w a1.2.2 a3 a2, Option.bind_some, zchk_t (decide_eq_true a1.2.2)]
      · obtain ⟨⟨hM, hF, hNm, hBx⟩, ⟨hR2, hH2⟩, hT2, hW2, hF2⟩ := id hm2
        obtain ⟨k, wk, b1, b2, b3, b4⟩ := m_boxes hO (rI_42 0 hm2)
        have b5 : mw Wly h k := mw_tr (mw_zi (Or.inl ⟨rfl, Or.inl rfl⟩) _ _) b1
        refine ⟨k, (if a 2 < 0 then -1 else wtA S.1 (S.2.1.2.1 i) (a 2).toNatClampNeg), ?_, ly_R b5, b2, by rw [b4, zi_at], fun _ => rfl⟩
        unfold nX11_within jX11_within_26
        rw [m_isRow hR2 hi, Option.bind_some, if_neg n01, m_missing hO hM hR2 hi, Option.bind_some, (rmis_0 _ _).mpr full, if_pos (show nI 0 = (0 : Int32) from rfl), zi_at, if_pos (Int32.le_refl 0), wk, Option.bind_some, m_within47 hBD hO b2.1.1 b2.2.1.1 b3 hi]
    · refine st_z (S := S) (L := nL_within (nI i) (a 2)) (M := nX11_within (nI i) (a 2)) (cd := 2) (an := 0) hm ?_ (fun h hm2 => ?_)
      · refine cZ_rs (X := nX10_within (nI i) (a 2)) (h := g) (e := "java/lang/IllegalStateException") ?_ (fz_fr (fr_rfl _ _)) hc (by rw [if_neg (by decide), if_pos rfl]) n02
        unfold nX10_within
        have hna : nX10_needAnswers (nI i) 0 g = some (.inr "java/lang/IllegalStateException") := c_needAnswersN (S := 0) hO hP hR hi (by
          rw [← Bool.not_eq_true, full_m hO]
          exact full)
        rw [c_needRow hR hi, Option.bind_some, zel_i, hna, Option.bind_some, zel_e]
      · obtain ⟨⟨hM, hF, hNm, hBx⟩, ⟨hR2, hH2⟩, hT2, hW2, hF2⟩ := id hm2
        have hlt := pcn_rm hO (S.2.1.2.1 i)
        refine ⟨zi h 42 0 2, 0, ?_, sc_fr (sc_42 h 2), rI_42 2 hm2, zi_at _ _ _ _, fun q => absurd q n02⟩
        unfold nX11_within jX11_within_26
        rw [m_isRow hR2 hi, Option.bind_some, if_neg n01, m_missing hO hM hR2 hi, Option.bind_some, if_neg (fun e => full ((rmis_0 _ _).mp ((nN_eq0 (by omega)).mp e))), zi_at, if_neg le2]
  · refine st_z (S := S) (L := nL_within (a 1) (a 2)) (M := nX11_within (a 1) (a 2)) (cd := 1) (an := 0) hm ?_ (fun h hm2 => ?_)
    · exact cZ_rs (X := nX10_within (a 1) (a 2)) (h := g) (by unfold nX10_within; rw [c_needRowN hR hno, Option.bind_some, zel_e]) (fz_fr (fr_rfl _ _)) hc (by rw [if_pos rfl]) n01
    · obtain ⟨_, ⟨p2, p3⟩, _⟩ := id hm2
      refine ⟨zi h 42 0 1, 0, ?_, sc_fr (sc_42 h 1), rI_42 1 hm2, zi_at _ _ _ _, fun q => absurd q n01⟩
      unfold nX11_within jX11_within_26
      rw [m_isRowN p2 hno, Option.bind_some, if_pos rfl, zi_at, if_neg le1]
end S22
