
/-! ===== steps: patterns, shares, usual values, groups ===== -/
section S5
variable {g h : zS} {P : zPl} {N : Nat} {r : Nat → Nat}
theorem isF_first {ky : Nat → Int32} {i o : Nat} (hi : i < N) (ho : o < N) (hf : isF N ky i = true) : fwk N ky (ky o) = i ↔ ky o = ky i := by
  have h1 : fwk N ky (ky i) = i := by unfold isF at hf; exact beq_iff_eq.mp hf
  constructor
  · intro h
    have h2 := (fstB_spec (fun j => decide (ky j = ky o)) N).2.2 (by have := fwk_lt (ky := ky) ho; exact this)
    have h3 : fstB (fun j => decide (ky j = ky o)) N = i := h
    rw [h3] at h2
    exact (of_decide_eq_true h2).symm
  · intro h
    rw [h]
    exact h1
theorem m_pattern44 (hO : pOK P) (hM : mP P g) (hR : mR P N r g) {i : Nat} (hi : i < N) (hf : isF N (kyP P r) i = true) (W : Int32) : wh (wX11_pattern_44 W (nI i) g) ((0 : Int32), (0 : Int32)) = some (if W = 0 then nI (lft P (r i) 0 (pn P)) else if W = 1 then nI (rmis (r i) (pn P)) else if W = 2 then nI (cnt (fun k => decide (kyP P r k = kyP P r i)) N) else nI i, g) := by
  have hN := hR.2.1
  refine wh_seq (fun o => (nI (cnt (fun k => decide (kyP P r k = kyP P r i)) o), nI o)) N (fun o ho => ?_) ?_
  · have hlt := fwk_lt (ky := kyP P r) ho
    have hff := isF_first hi ho hf
    dsimp only [wX11_pattern_44]
    rw [hR.1, if_neg (by rw [nN_le (by omega) (by omega)]; omega), m_firstLike hO hM hR ho, Option.bind_some, nI_s o, cnt_s]
    by_cases c : kyP P r o = kyP P r i
    · rw [if_pos (by rw [hff.mpr c]), decide_eq_true c, nI_s, if_pos rfl]
    · rw [if_neg (fun q => c (hff.mp ((nN_eq (by omega) (by omega)).mp q))), decide_eq_false c, Int32.add_zero, if_neg (by decide)]
  · dsimp only [wX11_pattern_44]
    rw [hR.1, if_pos (Int32.le_refl _), m_failsOf hO hM hR hi, Option.bind_some, m_missing hO hM hR hi, Option.bind_some]
    by_cases c0 : W = 0
    · rw [if_pos c0, if_pos c0]; rfl
    · rw [if_neg c0, if_neg c0]
      by_cases c1 : W = 1
      · rw [if_pos c1, if_pos c1]; rfl
      · rw [if_neg c1, if_neg c1]
        by_cases c2 : W = 2
        · rw [if_pos c2, if_pos c2]; rfl
        · rw [if_neg c2, if_neg c2]; rfl
theorem kth_cases (p : Nat → Bool) {N : Nat} (hN : N < 2147483648) (K : Int32) : (∃ i, i < N ∧ p i = true ∧ kth p N K = nI i) ∨ kth p N K = -1 := by
  rw [kth_fst p hN K]
  obtain ⟨a, b, c⟩ := fstB_spec (fun i => p i && decide (nI (cnt p i) = K)) N
  generalize fstB (fun i => p i && decide (nI (cnt p i) = K)) N = k at a b c
  by_cases q : k < N
  · have h := c q
    rw [Bool.and_eq_true] at h
    exact Or.inl ⟨k, q, h.1, if_pos q⟩
  · exact Or.inr (if_neg q)
theorem s_36 (a : Nat → Int32) (hv : Iv g) : ∃ r, nS_36 a g = some r ∧ Iv r := by
  obtain ⟨S, hc, hm⟩ := hv
  obtain ⟨hO, ⟨hP, hE, hC0, hL, h6, hG⟩, ⟨hR, hH, hz⟩, hT, hWr, hFl, hB⟩ := id hc
  have h5 := hO.1
  have hN := hR.2.1
  obtain ⟨k, w, k1⟩ := e_patternFirst hO hP hE hR (a 1)
  have eky : (fun i => nI (pk S.1 (S.2.1.2.1 i))) = kyP S.1 S.2.1.2.1 := rfl
  rw [eky] at w
  have hP2 := cP_fr (K := k38) ⟨rfl, rfl, rfl, rfl, rfl, rfl, rfl⟩ k1 hP
  have hE2 := cE_fr (K := k38) rfl k1 hE
  have hR3 := rR_fr (K := k38) ⟨rfl, rfl⟩ k1 hR
  unfold nS_36
  rcases kth_cases (isF S.2.1.1 (kyP S.1 S.2.1.2.1)) (N := S.2.1.1) (by omega) (a 1) with ⟨i, hi, hf, ek⟩ | ek
  · rw [ek] at w
    have hri := (hR.2.2 i hi).2
    have hne : ¬ nI i = (-1 : Int32) := fun q => by rw [nI_m1, nN_eqm (by omega)] at q; exact q
    rcases ix2 (a 2) (n := 4) (by omega) with ⟨v, hv, e2⟩ | hno2
    · rw [e2]
      refine st_q (L := nL_pattern (a 1) (nI v)) (M := nX11_pattern (a 1) (nI v)) (cd := 0) (an := if nI v = (0 : Int32) then nI (lft S.1 (S.2.1.2.1 i) 0 (pn S.1)) else if nI v = (1 : Int32) then nI (rmis (S.2.1.2.1 i) (pn S.1)) else if nI v = (2 : Int32) then nI (cnt (fun k => decide (kyP S.1 S.2.1.2.1 k = kyP S.1 S.2.1.2.1 i)) S.2.1.1) else nI i) hc hm ?_ ?_
      · obtain ⟨k', w', k1'⟩ := e_patternRows hO hP2 hE2 hR3 hi
        have body : nX10_pattern (a 1) (nI v) g = some (.inl (if nI v = (0 : Int32) then nI (lft S.1 (S.2.1.2.1 i) 0 (pn S.1)) else if nI v = (1 : Int32) then nI (rmis (S.2.1.2.1 i) (pn S.1)) else if nI v = (2 : Int32) then nI (cnt (fun k => decide (kyP S.1 S.2.1.2.1 k = kyP S.1 S.2.1.2.1 i)) S.2.1.1) else nI i), if nI v = (2 : Int32) then k' else k) := by
          unfold nX10_pattern
          rw [w, Option.bind_some]
          dsimp only
          rw [if_neg hne, e_codeOf hR3 hi, Option.bind_some, e_editsFailed hO hP2 hE2 hri, Option.bind_some, hP2.1, e_missingIn hri.1 h5, Option.bind_some, w', Option.bind_some]
          rcases c4 hv with rfl | rfl | rfl | rfl
          · rw [if_pos (show nI 0 = (0 : Int32) from rfl), if_pos (show nI 0 = (0 : Int32) from rfl), if_neg (show ¬ nI 0 = (2 : Int32) by decide)]
          · rw [if_neg (show ¬ nI 1 = (0 : Int32) by decide), if_pos (show nI 1 = (1 : Int32) from rfl), if_neg (show ¬ nI 1 = (0 : Int32) by decide), if_pos (show nI 1 = (1 : Int32) from rfl), if_neg (show ¬ nI 1 = (2 : Int32) by decide)]
          · rw [if_neg (show ¬ nI 2 = (0 : Int32) by decide), if_neg (show ¬ nI 2 = (1 : Int32) by decide), if_pos (show nI 2 = (2 : Int32) from rfl), if_neg (show ¬ nI 2 = (0 : Int32) by decide), if_neg (show ¬ nI 2 = (1 : Int32) by decide), if_pos (show nI 2 = (2 : Int32) from rfl), if_pos (show nI 2 = (2 : Int32) from rfl)]
            rfl
          · rw [if_neg (show ¬ nI 3 = (0 : Int32) by decide), if_neg (show ¬ nI 3 = (1 : Int32) by decide), if_neg (show ¬ nI 3 = (2 : Int32) by decide), if_pos (show nI 3 = (3 : Int32) from rfl), if_neg (show ¬ nI 3 = (0 : Int32) by decide), if_neg (show ¬ nI 3 = (1 : Int32) by decide), if_neg (show ¬ nI 3 = (2 : Int32) by decide), if_neg (show ¬ nI 3 = (2 : Int32) by decide)]
        refine cQ_ls (X := nX10_pattern (a 1) (nI v)) body ?_
        by_cases c : nI v = (2 : Int32)
        · rw [if_pos c]; exact fr_le k38_Q (fr_tr k1 k1')
        · rw [if_neg c]; exact fr_le k38_Q k1
      · intro h hm2
        obtain ⟨⟨hM, hF, hNm, hBx⟩, ⟨hR2, hH2⟩, hT2, hW2, hF2⟩ := id hm2
        have e3 : nX11_isIn (nI v) 0 3 = some 1 := m_in1 (k := v) (n := 3) (by omega) (by omega)
        unfold nX11_pattern jX11_pattern_25 jX11_pattern_26
        rw [m_patternAt hO hM hR2, Option.bind_some, ek, if_neg hne, e3, Option.bind_some, if_neg n01, zi_at, if_pos (Int32.le_refl 0), m_pattern44 hO (mP_sc (sc_42 h 0) hM) (mR_sc (sc_42 h 0) hR2) hi hf]
        exact ⟨_, _, rfl, sc_42 _ _, zi_at _ _ _ _, fun _ => rfl⟩
    · have hk := nIx4 (n := 3) hno2
      refine st_q (L := nL_pattern (a 1) (a 2)) (M := nX11_pattern (a 1) (a 2)) (cd := 1) (an := 0) hc hm ?_ ?_
      · refine cQ_rs (h := k) (X := nX10_pattern (a 1) (a 2)) (e := "java/util/NoSuchElementException") ?_ (fr_le k38_Q k1) (by rw [if_pos rfl]) n01
        unfold nX10_pattern
        rw [w, Option.bind_some]
        dsimp only
        rw [if_neg hne, e_codeOf hR3 hi, Option.bind_some, if_neg (show ¬ a 2 = 0 from hk 0 (by omega) (by omega)), if_neg (show ¬ a 2 = 1 from hk 1 (by omega) (by omega)), if_neg (show ¬ a 2 = 2 from hk 2 (by omega) (by omega)), if_neg (show ¬ a 2 = 3 from hk 3 (by omega) (by omega))]
      · intro h hm2
        obtain ⟨⟨hM, hF, hNm, hBx⟩, ⟨hR2, hH2⟩, hT2, hW2, hF2⟩ := id hm2
        have e3 : nX11_isIn (a 2) 0 3 = some 0 := m_out1 (n := 3) (by omega) hno2
        unfold nX11_pattern jX11_pattern_25 jX11_pattern_26
        rw [m_patternAt hO hM hR2, Option.bind_some, ek, if_neg hne, e3, Option.bind_some, if_pos rfl, zi_at, if_neg le1]
        exact mQ_err n01
  · rw [ek] at w
    refine st_q (L := nL_pattern (a 1) (a 2)) (M := nX11_pattern (a 1) (a 2)) (cd := 1) (an := 0) hc hm ?_ ?_
    · refine cQ_rs (h := k) (X := nX10_pattern (a 1) (a 2)) (e := "java/util/NoSuchElementException") ?_ (fr_le k38_Q k1) (by rw [if_pos rfl]) n01
      unfold nX10_pattern
      rw [w, Option.bind_some]
      dsimp only
      rw [if_pos rfl]
    · intro h hm2
      obtain ⟨⟨hM, hF, hNm, hBx⟩, ⟨hR2, hH2⟩, hT2, hW2, hF2⟩ := id hm2
      unfold nX11_pattern jX11_pattern_25 jX11_pattern_26
      rw [m_patternAt hO hM hR2, Option.bind_some, ek, if_pos rfl, zi_at, if_neg le1]
      exact mQ_err n01
/-! shares -/
theorem m_shareOf (hO : pOK P) (hM : mP P g) (hF : mF P g) (hR : mR P N r g) {f v : Nat} (hf : f < pn P) (hv : v < 7) : nX11_shareOf (nI f) (nI v) g = some (nI (shr P N r f v)) := by
  have h5 := hO.1
  have hN := hR.2.1
  unfold nX11_shareOf
  refine wh_seq (fun i => (nI (cnt (fun k => hav P 0 f v (r k)) i), nI (cnt (fun k => rgt P (r k)) i), nI i)) N (fun i hi => ?_) ?_
  · have hr := rv_lt (r i) f
    dsimp only [wX11_shareOf_8]
    rw [hR.1, if_neg (by rw [nN_le (by omega) (by omega)]; omega), m_passesRow hO hM hF hR hi, Option.bind_some, nI_s i, cnt_s, cnt_s]
    have eh : hav P 0 f v (r i) = (rv (r i) f == v + 1 && rgt P (r i)) := by unfold hav iG; rw [beq_self_eq_true, Bool.true_or, Bool.and_true]
    rw [eh]
    cases rgt P (r i) with
    | false => rw [if_pos (show (if false = true then (1 : Int32) else 0) = 0 by decide), Bool.and_false, if_neg (by decide), if_neg (by decide)]
    | true =>
      rw [if_neg (show ¬ (if true = true then (1 : Int32) else 0) = 0 by decide), m_of hR h5 hi hf, Option.bind_some, Bool.and_true]
      by_cases c : rv (r i) f = v + 1
      · rw [if_pos (show nJ (rv (r i) f) = nI v by rw [c, nJ_s]), nI_s, nI_s, c, beq_self_eq_true, if_pos rfl, if_pos rfl]
      · rw [if_neg (show ¬ nJ (rv (r i) f) = nI v from fun q => c ((nJ_eq (b := v + 1) (by omega) (by omega)).mp (by rw [nJ_s]; exact q))), Int32.add_zero, nI_s, show (rv (r i) f == v + 1) = false by simp [c], if_neg (by decide), if_pos rfl]
  · have c1 := cnt_le (fun k => rgt P (r k)) N
    have c2 := cnt_le (fun k => hav P 0 f v (r k)) N
    dsimp only [wX11_shareOf_8]
    rw [hR.1, if_pos (Int32.le_refl _)]
    unfold shr
    by_cases h0 : cnt (fun k => rgt P (r k)) N = 0
    · rw [if_pos (by rw [h0]; rfl), if_pos h0]; rfl
    · rw [if_neg (fun q => h0 ((nN_eq0 (by omega)).mp q)), if_neg h0, zchk_t (by rw [bne_iff_ne]; exact fun q => h0 ((nN_eq0 (by omega)).mp q)), show (100 : Int32) = nI 100 from rfl, nI_mul, nI_div (by omega) (by omega), Nat.mul_comm]
      rfl
theorem s_45 (a : Nat → Int32) (hv : Iv g) : ∃ r, nS_45 a g = some r ∧ Iv r := by
  obtain ⟨S, hc, hm⟩ := hv
  obtain ⟨hO, ⟨hP, hE, hC0, hL, h6, hG⟩, ⟨hR, hH, hz⟩, hT, hWr, hFl, hB⟩ := id hc
  have h5 := hO.1
  unfold nS_45
  rcases ix2 (a 1) (n := pn S.1) (by omega) with ⟨f, hf, e1⟩ | hno
  · rw [e1]
    have hq := (hO.2.1 f hf).2.1
    rcases ix2 (a 2) (n := pq S.1 f) (by omega) with ⟨v, hv, e2⟩ | hno2
    · rw [e2]
      refine st_q (L := nL_share (nI f) (nI v)) (M := nX11_share (nI f) (nI v)) (cd := 0) (an := nI (shr S.1 S.2.1.1 S.2.1.2.1 f v)) hc hm ?_ ?_
      · exact cQ_l (X := nX10_share (nI f) (nI v)) (by unfold nX10_share; rw [c_needField hO hP hf, Option.bind_some, zel_i, c_needValue hO hP hf hv, Option.bind_some, zel_i, e_shareOf hO hP hE hR hf (by omega), Option.bind_some])
      · intro h hm2
        obtain ⟨⟨hM, hF, hNm, hBx⟩, ⟨hR2, hH2⟩, hT2, hW2, hF2⟩ := id hm2
        unfold nX11_share jX11_share_34
        rw [m_isField hO hM hf, Option.bind_some, if_neg n01, zchk_t (zin_nI (by omega) (by omega)), nI_cl (by omega), hM.2.2.2.1 f hf, m_in hv (by omega), Option.bind_some, if_neg n01, zi_at, if_pos (Int32.le_refl 0), m_shareOf hO (mP_sc (sc_42 h 0) hM) (mF_sc (sc_42 h 0) hF) (mR_sc (sc_42 h 0) hR2) hf (by omega), Option.bind_some]
        exact ⟨_, _, rfl, sc_42 _ _, zi_at _ _ _ _, fun _ => rfl⟩
    · refine st_q (L := nL_share (nI f) (a 2)) (M := nX11_share (nI f) (a 2)) (cd := 2) (an := 0) hc hm ?_ ?_
      · exact cQ_r (X := nX10_share (nI f) (a 2)) (by unfold nX10_share; rw [c_needField hO hP hf, Option.bind_some, zel_i, c_needValueN hO hP hf hno2, Option.bind_some, zel_e]) (by rw [if_neg (by decide), if_pos rfl]) n02
      · intro h hm2
        obtain ⟨⟨hM, hF, hNm, hBx⟩, ⟨hR2, hH2⟩, hT2, hW2, hF2⟩ := id hm2
        unfold nX11_share jX11_share_34
        rw [m_isField hO hM hf, Option.bind_some, if_neg n01, zchk_t (zin_nI (by omega) (by omega)), nI_cl (by omega), hM.2.2.2.1 f hf, m_out (by omega) hno2, Option.bind_some, if_pos rfl, zi_at, if_neg le2]
        exact mQ_err n02
  · refine st_q (L := nL_share (a 1) (a 2)) (M := nX11_share (a 1) (a 2)) (cd := 1) (an := 0) hc hm ?_ ?_
    · exact cQ_r (X := nX10_share (a 1) (a 2)) (by unfold nX10_share; rw [c_needFieldN hP hno, Option.bind_some, zel_e]) (by rw [if_pos rfl]) n01
    · intro h hm2
      obtain ⟨⟨hM, hF, hNm, hBx⟩, ⟨hR2, hH2⟩, hT2, hW2, hF2⟩ := id hm2
      unfold nX11_share jX11_share_34
      rw [m_isFieldN hO hM hno, Option.bind_some, if_pos rfl, zi_at, if_neg le1]
      exact mQ_err n01
/-! groups -/
theorem c_needGroup (hO : pOK P) (hP : cP P g) (hp : pg P < pn P) {v : Nat} (hv : v < pq P (pg P)) : nX10_needGroup (nI v) g = some (.inl ()) := by
  have h5 := hO.1
  have eg : g.1 3 6 = nI (pg P) := by rw [hP.2.2.2.2.1]; exact if_neg (by omega)
  unfold nX10_needGroup
  rw [eg, if_neg (show ¬ nI (pg P) = (-1 : Int32) from fun q => by rw [nI_m1, nN_eqm (by omega)] at q; exact q), c_needValue hO hP hp hv, Option.bind_some, zel_i]
theorem c_needGroupN (hO : pOK P) (hP : cP P g) (hp : pg P < pn P) {a : Int32} (ha : nIx a (pq P (pg P))) : nX10_needGroup a g = some (.inr "java/lang/IllegalArgumentException") := by
  have h5 := hO.1
  have eg : g.1 3 6 = nI (pg P) := by rw [hP.2.2.2.2.1]; exact if_neg (by omega)
  unfold nX10_needGroup
  rw [eg, if_neg (show ¬ nI (pg P) = (-1 : Int32) from fun q => by rw [nI_m1, nN_eqm (by omega)] at q; exact q), c_needValueN hO hP hp ha, Option.bind_some, zel_e]
theorem c_needGroup9 (hP : cP P g) (hp : pg P = 9) (a : Int32) : nX10_needGroup a g = some (.inr "java/lang/IllegalStateException") := by
  have eg : g.1 3 6 = -1 := by rw [hP.2.2.2.2.1]; exact if_pos hp
  unfold nX10_needGroup
  rw [eg, if_pos rfl]
theorem m_group67 (hO : pOK P) (hM : mP P g) (hF : mF P g) (hR : mR P N r g) (hp : pg P < pn P) {v : Nat} (hv : v < 7) (b : Bool) : wh (wX11_group_67 (nI v) (bI b) g) ((0 : Int32), (0 : Int32)) = some (nI (cnt (fun k => iG P (r k) (v + 1) && (!b || rgt P (r k))) N), g) := by
  have h5 := hO.1
  have hN := hR.2.1
  have eg : g.1 42 19 = nI (pg P) := by rw [hM.2.2.1]; exact if_neg (by omega)
  refine wh_seq (fun i => (nI (cnt (fun k => iG P (r k) (v + 1) && (!b || rgt P (r k))) i), nI i)) N (fun i hi => ?_) ?_
  · have hr := rv_lt (r i) (pg P)
    have ei : iG P (r i) (v + 1) = (rv (r i) (pg P) == v + 1) := by unfold iG; rw [show (v + 1 == 0) = false from rfl, Bool.false_or]
    dsimp only [wX11_group_67]
    rw [hR.1, if_neg (by rw [nN_le (by omega) (by omega)]; omega), eg, m_of hR h5 hi hp, Option.bind_some, nI_s i, cnt_s, ei]
    by_cases c : rv (r i) (pg P) = v + 1
    · rw [if_pos (show nJ (rv (r i) (pg P)) = nI v by rw [c, nJ_s]), c, beq_self_eq_true, Bool.true_and]
      cases b with
      | false => rw [if_pos ((bI_0 false).mpr rfl), nI_s, Bool.not_false, Bool.true_or, if_pos rfl]
      | true =>
        rw [if_neg (fun q => absurd ((bI_0 true).mp q) (by decide)), m_passesRow hO hM hF hR hi, Option.bind_some, Bool.not_true, Bool.false_or]
        cases rgt P (r i) with
        | false => rw [if_pos (show (if false = true then (1 : Int32) else 0) = 0 by decide), Int32.add_zero, if_neg (by decide)]
        | true => rw [if_neg (show ¬ (if true = true then (1 : Int32) else 0) = 0 by decide), nI_s, if_pos rfl]
    · rw [if_neg (show ¬ nJ (rv (r i) (pg P)) = nI v from fun q => c ((nJ_eq (b := v + 1) (by omega) (by omega)).mp (by rw [nJ_s]; exact q))), Int32.add_zero, show (rv (r i) (pg P) == v + 1) = false by simp [c], Bool.false_and, if_neg (by decide)]
  · dsimp only [wX11_group_67]
    rw [hR.1, if_pos (Int32.le_refl _)]
    rfl
theorem s_43 (a : Nat → Int32) (hv : Iv g) : ∃ r, nS_43 a g = some r ∧ Iv r := by
  obtain ⟨S, hc, hm⟩ := hv
  obtain ⟨hO, ⟨hP, hE, hC0, hL, h6, hG⟩, ⟨hR, hH, hz⟩, hT, hWr, hFl, hB⟩ := id hc
  have h5 := hO.1
  unfold nS_43
  by_cases h9 : pg S.1 = 9
  · refine st_q (L := nL_group (a 1) (a 2)) (M := nX11_group (a 1) (a 2)) (cd := 1) (an := 0) hc hm ?_ ?_
    · exact cQ_r (X := nX10_group (a 1) (a 2)) (by unfold nX10_group; rw [c_needGroup9 hP h9, Option.bind_some, zel_e]) (by rw [if_pos rfl]) n01
    · intro h hm2
      obtain ⟨⟨hM, hF, hNm, hBx⟩, ⟨hR2, hH2⟩, hT2, hW2, hF2⟩ := id hm2
      have eg : h.1 42 19 = -1 := by rw [hM.2.2.1]; exact if_pos h9
      unfold nX11_group jX11_group_50
      rw [eg, if_pos rfl, zi_at, if_neg le1]
      exact mQ_err n01
  · have hp : pg S.1 < pn S.1 := hO.2.2.2.2.2.1.resolve_right h9
    have hq := (hO.2.1 _ hp).2.1
    have hng : ¬ nI (pg S.1) = (-1 : Int32) := fun q => by rw [nI_m1, nN_eqm (by omega)] at q; exact q
    rcases ix2 (a 1) (n := pq S.1 (pg S.1)) (by omega) with ⟨v, hv, e1⟩ | hno
    · rw [e1]
      rcases ix2 (a 2) (n := 2) (by omega) with ⟨w, hw, e2⟩ | hno2
      · rw [e2]
        have ew : nI w = bI (w == 1) := by
          have hc2 : w = 0 ∨ w = 1 := by omega
          rcases hc2 with rfl | rfl <;> rfl
        refine st_q (L := nL_group (nI v) (nI w)) (M := nX11_group (nI v) (nI w)) (cd := 0) (an := nI (cnt (fun k => iG S.1 (S.2.1.2.1 k) (v + 1) && (!(w == 1) || rgt S.1 (S.2.1.2.1 k))) S.2.1.1)) hc hm ?_ ?_
        · refine cQ_l (X := nX10_group (nI v) (nI w)) ?_
          have e0 := e_countInGroup hO hP hE hR (G := v + 1) (by omega) (fun _ => hp) false
          have e1' := e_countInGroup hO hP hE hR (G := v + 1) (by omega) (fun _ => hp) true
          rw [nJ_s] at e0 e1'
          unfold nX10_group
          rw [c_needGroup hO hP hp hv, Option.bind_some, zel_i]
          have hc2 : w = 0 ∨ w = 1 := by omega
          rcases hc2 with rfl | rfl
          · rw [if_pos (show nI 0 = 0 from rfl)]
            rw [if_neg (show ¬ false = true by decide)] at e0
            rw [e0]
            rfl
          · rw [if_neg (show ¬ nI 1 = 0 by decide), if_pos (show nI 1 = 1 from rfl)]
            rw [if_pos (show true = true from rfl)] at e1'
            rw [e1']
            rfl
        · intro h hm2
          obtain ⟨⟨hM, hF, hNm, hBx⟩, ⟨hR2, hH2⟩, hT2, hW2, hF2⟩ := id hm2
          have eg : h.1 42 19 = nI (pg S.1) := by rw [hM.2.2.1]; exact if_neg h9
          have e3 : nX11_isIn (nI w) 0 1 = some 1 := m_in1 (k := w) (n := 1) (by omega) (by omega)
          unfold nX11_group jX11_group_50
          rw [eg, if_neg hng, zchk_t (zin_nI (by omega) (by omega)), nI_cl (by omega), hM.2.2.2.1 _ hp, m_in hv (by omega), Option.bind_some, if_neg n01, e3, Option.bind_some, if_neg n01, zi_at, if_pos (Int32.le_refl 0), ew, m_group67 hO (mP_sc (sc_42 h 0) hM) (mF_sc (sc_42 h 0) hF) (mR_sc (sc_42 h 0) hR2) hp (by omega)]
          exact ⟨_, _, rfl, sc_42 _ _, zi_at _ _ _ _, fun _ => rfl⟩
      · have hk := nIx4 (n := 1) hno2
        refine st_q (L := nL_group (nI v) (a 2)) (M := nX11_group (nI v) (a 2)) (cd := 3) (an := 0) hc hm ?_ ?_
        · refine cQ_r (X := nX10_group (nI v) (a 2)) (e := "java/util/NoSuchElementException") ?_ (by rw [if_neg (by decide), if_neg (by decide), if_pos rfl]) n03
          unfold nX10_group
          rw [c_needGroup hO hP hp hv, Option.bind_some, zel_i, if_neg (show ¬ a 2 = 0 from hk 0 (by omega) (by omega)), if_neg (show ¬ a 2 = 1 from hk 1 (by omega) (by omega))]
        · intro h hm2
          obtain ⟨⟨hM, hF, hNm, hBx⟩, ⟨hR2, hH2⟩, hT2, hW2, hF2⟩ := id hm2
          have eg : h.1 42 19 = nI (pg S.1) := by rw [hM.2.2.1]; exact if_neg h9
          have e3 : nX11_isIn (a 2) 0 1 = some 0 := m_out1 (n := 1) (by omega) hno2
          unfold nX11_group jX11_group_50
          rw [eg, if_neg hng, zchk_t (zin_nI (by omega) (by omega)), nI_cl (by omega), hM.2.2.2.1 _ hp, m_in hv (by omega), Option.bind_some, if_neg n01, e3, Option.bind_some, if_pos rfl, zi_at, if_neg le3]
          exact mQ_err n03
    · refine st_q (L := nL_group (a 1) (a 2)) (M := nX11_group (a 1) (a 2)) (cd := 2) (an := 0) hc hm ?_ ?_
      · exact cQ_r (X := nX10_group (a 1) (a 2)) (by unfold nX10_group; rw [c_needGroupN hO hP hp hno, Option.bind_some, zel_e]) (by rw [if_neg (by decide), if_pos rfl]) n02
      · intro h hm2
        obtain ⟨⟨hM, hF, hNm, hBx⟩, ⟨hR2, hH2⟩, hT2, hW2, hF2⟩ := id hm2
        have eg : h.1 42 19 = nI (pg S.1) := by rw [hM.2.2.1]; exact if_neg h9
        unfold nX11_group jX11_group_50
        rw [eg, if_neg hng, zchk_t (zin_nI (by omega) (by omega)), nI_cl (by omega), hM.2.2.2.1 _ hp, m_out (by omega) hno, Option.bind_some, if_pos rfl, zi_at, if_neg le2]
        exact mQ_err n02
end S5
