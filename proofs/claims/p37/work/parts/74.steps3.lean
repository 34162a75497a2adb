
/-! ===== steps: patterns, alike rows, idle edits, donors ===== -/
section S3
variable {g h : zS} {P : zPl} {N : Nat} {r : Nat → Nat}
/-- rows' patterns as keys -/
def kyP (P : zPl) (r : Nat → Nat) : Nat → Int32 := fun i => nI (pk P (r i))
theorem pkN_eq (hO : pOK P) {c d : Nat} : nI (pk P c) = nI (pk P d) ↔ lft P c 0 (pn P) = lft P d 0 (pn P) ∧ rmis c (pn P) = rmis d (pn P) := by
  have h6 := p2m hO
  have h7 := p2n hO
  have l1 := lft_lt P c 0 (pn P)
  have l2 := lft_lt P d 0 (pn P)
  have r1 : rmis c (pn P) < 2 ^ pn P := bS_lt _ _
  have r2 : rmis d (pn P) < 2 ^ pn P := bS_lt _ _
  unfold pk
  rw [nN_eq (by omega) (by omega)]
  omega
theorem m_firstLike (hO : pOK P) (hM : mP P g) (hR : mR P N r g) {i : Nat} (hi : i < N) : nX11_firstLike (nI i) g = some (nI (fwk N (kyP P r) (kyP P r i))) := by
  have hN := hR.2.1
  have h6 := p2m hO
  have h7 := p2n hO
  unfold nX11_firstLike
  have body : ∀ s, s < i → wX11_firstLike_2 (nI i) g (nI s) = if decide (kyP P r s = kyP P r i) then some (.inr (nI s)) else some (.inl (nI (s + 1))) := fun s hs => by
    have l1 := lft_lt P (r s) 0 (pn P)
    have l2 := lft_lt P (r i) 0 (pn P)
    have r1 : rmis (r s) (pn P) < 2 ^ pn P := bS_lt _ _
    have r2 : rmis (r i) (pn P) < 2 ^ pn P := bS_lt _ _
    have hpk := pkN_eq hO (c := r s) (d := r i)
    dsimp only [wX11_firstLike_2]
    rw [if_neg (by rw [nN_le (by omega) (by omega)]; omega), m_failsOf hO hM hR (by omega), Option.bind_some, m_failsOf hO hM hR hi, Option.bind_some, m_missing hO hM hR (by omega), Option.bind_some, m_missing hO hM hR hi, Option.bind_some, nI_s]
    by_cases c1 : lft P (r s) 0 (pn P) = lft P (r i) 0 (pn P)
    · rw [if_pos (by rw [c1])]
      by_cases c2 : rmis (r s) (pn P) = rmis (r i) (pn P)
      · rw [if_pos (by rw [c2]), decide_eq_true (show kyP P r s = kyP P r i from hpk.mpr ⟨c1, c2⟩), if_pos rfl]; rfl
      · rw [if_neg (fun q => c2 ((nN_eq (by omega) (by omega)).mp q)), decide_eq_false (show ¬ kyP P r s = kyP P r i from fun q => c2 (hpk.mp q).2), if_neg (by decide)]
    · rw [if_neg (fun q => c1 ((nN_eq (by omega) (by omega)).mp q)), decide_eq_false (show ¬ kyP P r s = kyP P r i from fun q => c1 (hpk.mp q).1), if_neg (by decide)]
  have key := wh_fst (step := wX11_firstLike_2 (nI i) g) (fun s => decide (kyP P r s = kyP P r i)) (fun s => nI s) i (fun s => nI s) (nI i) (fun s hs hp => by rw [body s hs, hp, if_neg (by decide)]) (fun s hs hp => by rw [body s hs, hp, if_pos rfl]) (by
    dsimp only [wX11_firstLike_2]
    rw [if_pos (Int32.le_refl _)]
    rfl)
  rw [show (0 : Int32) = nI 0 from rfl, key]
  obtain ⟨a, b, c⟩ := fstB_spec (fun s => decide (kyP P r s = kyP P r i)) i
  unfold fwk
  by_cases q : fstB (fun s => decide (kyP P r s = kyP P r i)) i < i
  · rw [if_pos q, fstB_eq (p := fun s => decide (kyP P r s = kyP P r i)) (n := N) (by omega) (c q) b]
  · rw [if_neg q, fstB_eq (p := fun s => decide (kyP P r s = kyP P r i)) (n := N) hi (decide_eq_true rfl) (fun s hs => b s (by omega))]
theorem isF_nI (hN : N ≤ 40) {ky : Nat → Int32} {i : Nat} (hi : i < N) : nI (fwk N ky (ky i)) = nI i ↔ isF N ky i = true := by
  have := fwk_lt (ky := ky) hi
  unfold isF
  rw [nN_eq (by omega) (by omega), beq_iff_eq]
theorem m_patternAt (hO : pOK P) (hM : mP P g) (hR : mR P N r g) (K : Int32) : nX11_patternAt K g = some (kth (isF N (kyP P r)) N K) := by
  have hN := hR.2.1
  unfold nX11_patternAt
  rw [kth_fst _ (by omega)]
  by_cases hK : K < 0
  · rw [if_neg (fstB_none (fun i hi => by
      have := cnt_le (isF N (kyP P r)) i
      rw [decide_eq_false (nI_lt0 hK (by omega)), Bool.and_false]))]
    refine wh_out ?_
    dsimp only [wX11_patternAt_4]
    by_cases q : g.1 42 18 ≤ 0
    · rw [if_pos q]; rfl
    · rw [if_neg q, if_pos hK]; rfl
  · refine wh_kth (isF N (kyP P r)) N (by omega) K (fun i => nI i) (-1) (fun i l hi hp => ?_) (fun i l hi hp => ?_) (fun l => ?_)
    · dsimp only [wX11_patternAt_4]
      rw [hR.1, if_neg (by rw [nN_le (by omega) (by omega)]; omega), if_neg hK, m_firstLike hO hM hR hi, Option.bind_some, if_neg (fun q => by rw [(isF_nI hN hi).mp q] at hp; cases hp), nI_s]
    · dsimp only [wX11_patternAt_4]
      rw [hR.1, if_neg (by rw [nN_le (by omega) (by omega)]; omega), if_neg hK, m_firstLike hO hM hR hi, Option.bind_some, if_pos ((isF_nI hN hi).mpr hp), nI_s]
      rfl
    · dsimp only [wX11_patternAt_4]
      rw [hR.1, if_pos (Int32.le_refl _)]
      rfl
theorem rv_ext {c d : Nat} (hc : rOK P c) (hd : rOK P d) (h : ∀ f, f < pn P → rv c f = rv d f) : c = d := by
  have h5 : ∀ f, f < 5 → rv c f = rv d f := fun f hf => by
    by_cases q : f < pn P
    · exact h f q
    · rw [hc.2.2 f (by omega) hf, hd.2.2 f (by omega) hf]
  apply Nat.eq_of_testBit_eq
  intro j
  by_cases hj : j < 15
  · have ej : 3 * (j / 3) + j % 3 = j := Nat.div_add_mod j 3
    have h1 := congrArg (fun z => z.testBit (j % 3)) (h5 (j / 3) (by omega))
    rw [rv_bit, rv_bit, ej, decide_eq_true (show j % 3 < 3 from Nat.mod_lt _ (by omega)), Bool.and_true, Bool.and_true] at h1
    exact h1
  · have e : ∀ x, x < 32768 → x.testBit j = false := fun x hx => Nat.testBit_lt_two_pow (Nat.lt_of_lt_of_le hx (by rw [show 32768 = 2 ^ 15 from rfl]; exact Nat.pow_le_pow_right (by omega) (by omega)))
    rw [e c hc.1, e d hd.1]
theorem m_areAlike (hO : pOK P) (hM : mP P g) (hR : mR P N r g) {i o : Nat} (hi : i < N) (ho : o < N) : nX11_areAlike (nI i) (nI o) g = some (if decide (nI (r o) = nI (r i)) then 1 else 0) := by
  have h5 := hO.1
  have c1 := (hR.2.2 i hi).2
  have c2 := (hR.2.2 o ho).2
  have l1 := c1.1
  have l2 := c2.1
  unfold nX11_areAlike
  have key := wh_fst (step := wX11_areAlike_2 (nI i) (nI o) g) (fun f => !decide (rv (r i) f = rv (r o) f)) (fun f => nI f) (pn P) (fun _ => (0 : Int32)) (1 : Int32) (fun f hf hp => by
    have k1 := rv_lt (r i) f
    have k2 := rv_lt (r o) f
    dsimp only [wX11_areAlike_2]
    rw [hM.1, if_neg (by rw [nN_le (by omega) (by omega)]; omega), m_of hR h5 hi hf, Option.bind_some, m_of hR h5 ho hf, Option.bind_some, nI_s, if_pos]
    rw [nJ_eq (by omega) (by omega)]
    simpa using hp) (fun f hf hp => by
    have k1 := rv_lt (r i) f
    have k2 := rv_lt (r o) f
    dsimp only [wX11_areAlike_2]
    rw [hM.1, if_neg (by rw [nN_le (by omega) (by omega)]; omega), m_of hR h5 hi hf, Option.bind_some, m_of hR h5 ho hf, Option.bind_some, if_neg]
    · rfl
    · rw [nJ_eq (by omega) (by omega)]
      simpa using hp) (by
    dsimp only [wX11_areAlike_2]
    rw [hM.1, if_pos (Int32.le_refl _)]
    rfl)
  rw [show (0 : Int32) = nI 0 from rfl, key]
  obtain ⟨a, b, c⟩ := fstB_spec (fun f => !decide (rv (r i) f = rv (r o) f)) (pn P)
  by_cases q : fstB (fun f => !decide (rv (r i) f = rv (r o) f)) (pn P) < pn P
  · have h1 := c q
    rw [if_pos q, decide_eq_false, if_neg (by decide)]
    · rfl
    · intro q2
      rw [nN_eq (by omega) (by omega)] at q2
      rw [q2] at h1
      simp at h1
  · have e : r o = r i := (rv_ext c1 c2 (fun f hf => by
      have := b f (by omega)
      simpa using this)).symm
    rw [if_neg q, e, decide_eq_true rfl, if_pos rfl]
theorem s_9 (a : Nat → Int32) (hv : Iv g) : ∃ r, nS_9 a g = some r ∧ Iv r := by
  obtain ⟨S, hc, hm⟩ := hv
  obtain ⟨hO, ⟨hP, hE, hC0, hL, h6, hG⟩, ⟨hR, hH, hz⟩, hT, hWr, hFl, hB⟩ := id hc
  rcases ix2 (a 1) (n := pm S.1) (by have := hO.2.2.2.1; omega) with ⟨i1, h1, e1⟩ | h1
  · unfold nS_9
    rw [e1]
    refine st_qb (L := nL_idle (nI i1)) (M := nX11_idle (nI i1)) (cd := 0) (b := idl S.1 i1) hc hm ?_ ?_
    · exact cQb_l (X := nX10_idle (nI i1)) (by unfold nX10_idle; rw [c_needEdit hO hP h1, Option.bind_some, zel_i, e_isIdle hO hP hE h1, Option.bind_some, zchk_t (znb_b _)])
    · intro h hm2
      obtain ⟨⟨hM, hF, hNm, hBx⟩, ⟨hR2, hH2⟩, hT2, hW2, hF2⟩ := id hm2
      unfold nX11_idle jX11_idle_14
      rw [m_isEdit hO hM h1, Option.bind_some, if_neg n01, zi_at, if_pos (Int32.le_refl 0)]
      have hm6 := hO.2.2.2.1
      have key := wh_fst (step := wX11_idle_28 (nI i1) (zi h 42 0 0)) (fun x => isF5 S.1 x && fsM S.1 x == 2 ^ i1) (fun x => nI x) 3125 (fun _ => ((0 : Int32), zi h 42 0 0)) ((1 : Int32), zi h 42 0 0) (fun x hx hp => by
        obtain ⟨f1, f2⟩ := (mF_sc (sc_42 h 0) hF) x hx
        have hlt := fsM_lt hO x
        have hp2 : 2 ^ i1 < 64 := pow6 (by omega)
        dsimp only [wX11_idle_28]
        rw [if_neg (by rw [show (3125 : Int32) = nI 3125 from rfl, nN_le (by omega) (by omega)]; omega), zchk_t (zin_nI hx (by omega)), zchk_t (zin_nI hx (by omega)), nI_cl (by omega), f1, f2, nI_s, nI_shl (by omega)]
        cases hi5 : isF5 S.1 x with
        | false => rw [if_pos ((bI_0 false).mpr rfl)]
        | true =>
          rw [hi5, Bool.true_and, beq_eq_false_iff_ne] at hp
          rw [if_neg (fun q => absurd ((bI_0 true).mp q) (by decide)), if_neg (fun q => hp ((nN_eq (by omega) (by omega)).mp q))]) (fun x hx hp => by
        obtain ⟨f1, f2⟩ := (mF_sc (sc_42 h 0) hF) x hx
        rw [Bool.and_eq_true, beq_iff_eq] at hp
        dsimp only [wX11_idle_28]
        rw [if_neg (by rw [show (3125 : Int32) = nI 3125 from rfl, nN_le (by omega) (by omega)]; omega), zchk_t (zin_nI hx (by omega)), zchk_t (zin_nI hx (by omega)), nI_cl (by omega), f1, f2, nI_shl (by omega), hp.1, if_neg (fun q => absurd ((bI_0 true).mp q) (by decide)), if_pos (by rw [hp.2])]
        rfl) (by
        dsimp only [wX11_idle_28]
        rw [if_pos (show (3125 : Int32) ≤ nI 3125 from Int32.le_refl _)]
        rfl)
      have key2 : wh (wX11_idle_28 (nI i1) (zi h 42 0 0)) (0 : Int32) = some (if idl S.1 i1 then (1 : Int32) else 0, zi h 42 0 0) := by
        rw [show wh (wX11_idle_28 (nI i1) (zi h 42 0 0)) (0 : Int32) = _ from key]
        obtain ⟨a, b, c⟩ := fstB_spec (fun x => isF5 S.1 x && fsM S.1 x == 2 ^ i1) 3125
        generalize fstB (fun x => isF5 S.1 x && fsM S.1 x == 2 ^ i1) 3125 = x0 at a b c ⊢
        by_cases q : x0 < 3125
        · have h9 := c q
          rw [Bool.and_eq_true, beq_iff_eq] at h9
          have hid : idl S.1 i1 = false := (idl_iff hO h1).mpr ⟨vo x0, fun f hf => by
            have h8 := h9.1
            unfold isF5 at h8
            rw [alB_iff] at h8
            have := of_decide_eq_true (h8 f (by have := hO.1; omega))
            rw [mq_in hf] at this
            exact this, by
            have h8 := h9.2
            unfold fsM at h8
            rw [h9.1, if_pos rfl] at h8
            exact h8⟩
          rw [if_pos q, hid]
          rfl
        · have hid : idl S.1 i1 = true := by
            cases hd : idl S.1 i1 with
            | true => rfl
            | false =>
              exfalso
              obtain ⟨a, a1, a2⟩ := (idl_iff hO h1).mp hd
              obtain ⟨v1, v2, v3⟩ := fno_form hO a1
              have := b _ (by omega : fno a (pn S.1) < _)
              rw [v2, v3, a2] at this
              simp at this
          rw [if_neg q, hid]
          rfl
      rw [key2]
      exact ⟨_, _, rfl, sc_42 _ _, zi_at _ _ _ _, fun _ => rfl⟩
  · unfold nS_9
    refine st_qb (L := nL_idle (a 1)) (M := nX11_idle (a 1)) (cd := 1) (b := false) hc hm ?_ ?_
    · exact cQb_r (X := nX10_idle (a 1)) (by unfold nX10_idle; rw [c_needEditN hP h1, Option.bind_some, zel_e]) (by rw [if_pos rfl]) n01
    · intro h hm2
      obtain ⟨⟨hM, hF, hNm, hBx⟩, ⟨hR2, hH2⟩, hT2, hW2, hF2⟩ := id hm2
      unfold nX11_idle jX11_idle_14
      rw [m_isEditN hO hM h1, Option.bind_some, if_pos rfl, zi_at, if_neg le1]
      exact mQ_err n01
theorem s_37 (a : Nat → Int32) (hv : Iv g) : ∃ r, nS_37 a g = some r ∧ Iv r := by
  obtain ⟨S, hc, hm⟩ := hv
  obtain ⟨hO, ⟨hP, hE, hC0, hL, h6, hG⟩, ⟨hR, hH, hz⟩, hT, hWr, hFl, hB⟩ := id hc
  have hN := hR.2.1
  unfold nS_37
  obtain ⟨k, w, ak⟩ := e_countPatterns hO hP hE hR
  refine st_d (L := nX10_patterns) (M := nX11_patterns) hc hm ⟨k, by unfold nX10_patterns; rw [w, Option.bind_some], fr_le k38_Q ak⟩ (fun h hm2 => ?_)
  obtain ⟨⟨hM, hF, hNm, hBx⟩, ⟨hR2, hH2⟩, hT2, hW2, hF2⟩ := id hm2
  have hMz := mP_sc (sc_42 h 0) hM
  have hRz := mR_sc (sc_42 h 0) hR2
  refine ⟨zi h 42 0 0, ?_, sc_42 h 0⟩
  unfold nX11_patterns
  refine wh_seq (fun i => (nI (cnt (isF S.2.1.1 (kyP S.1 S.2.1.2.1)) i), nI i)) S.2.1.1 (fun i hi => ?_) ?_
  · dsimp only [wX11_patterns_9]
    rw [hRz.1, if_neg (by rw [nN_le (by omega) (by omega)]; omega), m_firstLike hO hMz hRz hi, Option.bind_some, nI_s i, cnt_s]
    cases q : isF S.2.1.1 (kyP S.1 S.2.1.2.1) i with
    | true => rw [if_pos ((isF_nI hN hi).mpr q), nI_s, if_pos rfl]
    | false => rw [if_neg (fun e => by rw [(isF_nI hN hi).mp e] at q; cases q), Int32.add_zero, if_neg (by decide)]
  · dsimp only [wX11_patterns_9]
    rw [hRz.1, if_pos (Int32.le_refl _)]
    rfl
theorem s_42 (a : Nat → Int32) (hv : Iv g) : ∃ r, nS_42 a g = some r ∧ Iv r := by
  obtain ⟨S, hc, hm⟩ := hv
  obtain ⟨hO, ⟨hP, hE, hC0, hL, h6, hG⟩, ⟨hR, hH, hz⟩, hT, hWr, hFl, hB⟩ := id hc
  have hN := hR.2.1
  unfold nS_42
  obtain ⟨k, w, ak⟩ := e_countUnlike hR
  refine st_d (L := nX10_unlike) (M := nX11_unlike) hc hm ⟨k, by unfold nX10_unlike; rw [w, Option.bind_some], fr_le k38_Q ak⟩ (fun h hm2 => ?_)
  obtain ⟨⟨hM, hF, hNm, hBx⟩, ⟨hR2, hH2⟩, hT2, hW2, hF2⟩ := id hm2
  have hMz := mP_sc (sc_42 h 0) hM
  have hRz := mR_sc (sc_42 h 0) hR2
  refine ⟨zi h 42 0 0, ?_, sc_42 h 0⟩
  unfold nX11_unlike
  have hin : ∀ i, i < S.2.1.1 → ∀ n, wh (wX11_unlike_22 n (nI i) (zi h 42 0 0)) ((1 : Int32), (0 : Int32)) = some (.inl (if isF S.2.1.1 (fun k => nI (S.2.1.2.1 k)) i then n + 1 else n, nI (i + 1))) := fun i hi n => by
    have hd : ∀ j, j ≤ i → ∀ b : Bool, (b = true ↔ ∀ o, o < j → ¬ nI (S.2.1.2.1 o) = nI (S.2.1.2.1 i)) → j = i → b = isF S.2.1.1 (fun k => nI (S.2.1.2.1 k)) i := fun j _ b hb hji => by
      rw [Bool.eq_iff_iff, hb, hji]
      unfold isF fwk
      rw [beq_iff_eq]
      constructor
      · intro h9
        exact fstB_eq hi (decide_eq_true rfl) (fun o ho => decide_eq_false (h9 o ho))
      · intro h9 o ho
        have h8 := (fstB_spec (fun k => decide (nI (S.2.1.2.1 k) = nI (S.2.1.2.1 i))) S.2.1.1).2.1 o (by rw [h9]; exact ho)
        exact of_decide_eq_false h8
    obtain ⟨rr, w, q⟩ := wh_up (step := wX11_unlike_22 n (nI i) (zi h 42 0 0)) (fun j t => ∃ b : Bool, t = (bI b, nI j) ∧ (b = true ↔ ∀ o, o < j → ¬ nI (S.2.1.2.1 o) = nI (S.2.1.2.1 i))) (fun rr => rr = .inl (if isF S.2.1.1 (fun k => nI (S.2.1.2.1 k)) i then n + 1 else n, nI (i + 1))) i (fun j t hj hI => by
      obtain ⟨b, rfl, hb⟩ := hI
      dsimp only [wX11_unlike_22]
      rw [if_neg (by rw [nN_le (by omega) (by omega)]; omega), nI_s j]
      cases b with
      | false =>
        rw [if_pos ((bI_0 false).mpr rfl)]
        refine ⟨_, rfl, false, rfl, ⟨fun q => (by cases q), fun q => hb.mpr (fun o ho => q o (by omega))⟩⟩
      | true =>
        rw [if_neg (fun q => absurd ((bI_0 true).mp q) (by decide)), m_areAlike hO hMz hRz (by omega) hi, Option.bind_some]
        by_cases c : nI (S.2.1.2.1 i) = nI (S.2.1.2.1 j)
        · rw [decide_eq_true c, if_neg (show ¬ (if true = true then (1 : Int32) else 0) = 0 by decide)]
          refine ⟨_, rfl, false, rfl, ⟨fun q => (by cases q), fun q => absurd c.symm (q j (by omega))⟩⟩
        · rw [decide_eq_false c, if_pos (show (if false = true then (1 : Int32) else 0) = 0 by decide)]
          refine ⟨_, rfl, true, rfl, ⟨fun _ o ho => ?_, fun _ => rfl⟩⟩
          by_cases q2 : o = j
          · rw [q2]; exact fun q => c q.symm
          · exact hb.mp rfl o (by omega)) (fun t hI => by
      obtain ⟨b, rfl, hb⟩ := hI
      dsimp only [wX11_unlike_22]
      rw [if_pos (Int32.le_refl _), nI_s, ← hd i (Nat.le_refl i) b hb rfl]
      cases b with
      | false => rw [if_pos ((bI_0 false).mpr rfl), Int32.add_zero, if_neg (by decide)]; exact ⟨_, rfl, rfl⟩
      | true => rw [if_neg (fun q => absurd ((bI_0 true).mp q) (by decide)), if_pos rfl]; exact ⟨_, rfl, rfl⟩) (s := ((1 : Int32), (0 : Int32))) ⟨true, rfl, fun _ o ho => absurd ho (Nat.not_lt_zero o), fun _ => rfl⟩
    rw [w, q]
  refine wh_seq (fun i => (nI (cnt (isF S.2.1.1 (fun k => nI (S.2.1.2.1 k))) i), nI i)) S.2.1.1 (fun i hi => ?_) ?_
  · dsimp only [wX11_unlike_9]
    rw [hRz.1, if_neg (by rw [nN_le (by omega) (by omega)]; omega), hin i hi, cnt_s, nI_s]
    split <;> rfl
  · dsimp only [wX11_unlike_9]
    rw [hRz.1, if_pos (Int32.le_refl _)]
    rfl
end S3
