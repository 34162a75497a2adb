/-! ===== the law's walk: the weight of a set; the least one so far ===== -/
theorem q_bits {l : Launch} (hl0 : l.flags = flags0) {E : List zDs} (hE : E.all zfr1 = true) {σ : zS} {k : Nat} (hk : k < 64) : zC l yJ6_bitCount_0f7a4 cJ6_bitCount_0f7a4 1 (Option.some Jvm.ClassFile.FieldType.int) 0 0 0 [.int (nI k)] (zD ++ E) σ (.inl (some (.int (nI (pcn k)))), zD ++ E, σ) := by
  have h := zC_fr hE (fun i h => by cases h) (tJ6_bitCount_0f7a4 hl0 (nI k) σ (e_bitCount hk))
  rwa [zmix_self] at h
theorem pcn_le6 (k : Nat) : pcn k ≤ 6 := by
  unfold pcn
  have h : ∀ n, foN (fun i a => a + (if k.testBit i then 1 else 0)) n 0 ≤ n := by
    intro n
    induction n with
    | zero => exact Nat.le_refl _
    | succ n ih =>
      show foN (fun i a => a + (if k.testBit i then 1 else 0)) n 0 + (if k.testBit n then 1 else 0) ≤ n + 1
      split <;> omega
  exact h 6
theorem wt_one {l : Launch} (hl0 : l.flags = flags0) {S : zSt} {σ : zS} {c i : Nat} (hB : lwB S c i) (hW : lwW S c i σ) {T f : Nat} {v7 v8 v9 : Int32} (hT : T < 2147483648) (hf : f < pn S.1) : ∀ (A B : Nat) x, zG x cL_law 18 RL ret ∧ zl0 x = l → zK x 70 351 [(13, .int (nI (f + 1))), (12, .int (nI (wSum S.1 T (f + 1)))), (11, .int (nI (nws S.1 (S.2.1.2.1 i) T))), (10, .int (nI T)), (9, .int v9), (8, .int v8), (7, .int v7), (6, .int (nI (rmis (S.2.1.2.1 i) (pn S.1)))), (5, .ref (49 + c)), (4, .int (nI i)), (3, .ref 48), (2, .int (nI (pn S.1))), (1, .ref 0), (0, .ref 1041)] [] (zD ++ zEg c (pn S.1)) σ A B → zK x 70 351 [(13, .int (nI f)), (12, .int (nI (wSum S.1 T f))), (11, .int (nI (nws S.1 (S.2.1.2.1 i) T))), (10, .int (nI T)), (9, .int v9), (8, .int v8), (7, .int v7), (6, .int (nI (rmis (S.2.1.2.1 i) (pn S.1)))), (5, .ref (49 + c)), (4, .int (nI i)), (3, .ref 48), (2, .int (nI (pn S.1))), (1, .ref 0), (0, .ref 1041)] [] (zD ++ zEg c (pn S.1)) σ (A + 2) (B + 12) := by
  have hn4 := hB.1.2.1
  have hs : wSum S.1 T (f + 1) = if T.testBit f then wSum S.1 T f + pw S.1 f else wSum S.1 T f := rfl
  rintro A B x ⟨hG, hxl⟩ kk
  subst hxl
  refine z_iload (pc := 351) hG 0 rfl dL_law_351 ?_
  refine z_iload_n (pc := 353) hG 11 rfl rfl dL_law_353 ?_
  refine z_icmp_ge (pc := 354) (tgt := 383) hG dL_law_354 rfl (fun hbr => False.elim ((fun h => nI_nle2 hf (by omega) h) hbr)) (fun _ => ?_)
  refine z_iload (pc := 357) hG 1 rfl dL_law_357 ?_
  refine z_iload (pc := 359) hG 3 rfl dL_law_359 ?_
  refine z_iload (pc := 361) hG 0 rfl dL_law_361 ?_
  refine z_ishr (pc := 363) hG dL_law_363 ?_
  refine z_iconst (pc := 364) (v := (1 : Int32)) hG (by decide) dL_law_364 ?_
  refine z_iand (pc := 365) hG dL_law_365 ?_
  by_cases hb : T.testBit f = true
  · have hsy : nI (wSum S.1 T f) + nI (1 * pw S.1 f) = nI (wSum S.1 T (f + 1)) := by
      rw [nI_add, hs, if_pos hb, Nat.one_mul]
    rw [show (((nI T) >>> ((nI f) &&& 31)) &&& (1 : Int32)) = (nI 1) from bit_y hT (by omega) hb]
    refine z_aload_n (pc := 366) hG 12 rfl rfl dL_law_366 ?_
    refine z_iload (pc := 367) hG 0 rfl dL_law_367 ?_
    refine z_iconst (pc := 369) (v := (1 : Int32)) hG (by decide) dL_law_369 ?_
    refine z_virtS (pc := 370) (A' := A) (B' := B) (st2 := [.int ((nI (pw S.1 f))), .int ((nI 1)), .int ((nI (wSum S.1 T f)))]) (v := some (.int ((nI (pw S.1 f))))) hG [.int ((nI f)), .int ((1 : Int32))] [.int ((nI 1)), .int ((nI (wSum S.1 T f)))] zc_X10 (zEo_0 _) (q_field1 hl0 (zEg_f _ _) hW.1 hf) zy_X10_field ⟨w33, w34⟩ w32 dL_law_370 rfl (Nat.le_of_ble_eq_true rfl) (Nat.le_refl _) (zand rfl (zand rfl rfl)) (zand rfl (zand rfl (zand rfl (zand rfl (zand rfl (zand rfl (zand rfl (zand rfl (zand (zog_N _ _) (zand rfl (zand (zog_48 _ _) (zand rfl (zand (zo_0 _) (zand (zoks_hi (by decide)) rfl)))))))))))))) rfl rfl (Nat.le_of_ble_eq_true rfl) rfl rfl ?_
    refine z_imul (pc := 373) hG dL_law_373 ?_
    rw [show ((nI 1) * (nI (pw S.1 f))) = (nI (1 * pw S.1 f)) from pk_mul 1 (pw S.1 f)]
    refine z_iadd (pc := 374) hG dL_law_374 ?_
    rw [show ((nI (wSum S.1 T f)) + (nI (1 * pw S.1 f))) = (nI (wSum S.1 T (f + 1))) from hsy]
    refine z_istore (pc := 375) (ls' := [(12, .int ((nI (wSum S.1 T (f + 1))))), (13, .int ((nI f))), (11, .int ((nI (nws S.1 (S.2.1.2.1 i) T)))), (10, .int ((nI T))), (9, .int v9), (8, .int v8), (7, .int v7), (6, .int ((nI (rmis (S.2.1.2.1 i) (pn S.1))))), (5, .ref (49 + c)), (4, .int ((nI i))), (3, .ref 48), (2, .int ((nI (pn S.1)))), (1, .ref 0), (0, .ref 1041)]) hG [0, 1, 2, 3, 4, 5, 6, 7, 8, 9, 10, 11, 12, 13] (by decide) rfl dL_law_375 ?_
    refine z_iinc (pc := 377) (v := (nI (f + 1))) (ls' := [(13, .int ((nI (f + 1)))), (12, .int ((nI (wSum S.1 T (f + 1))))), (11, .int ((nI (nws S.1 (S.2.1.2.1 i) T)))), (10, .int ((nI T))), (9, .int v9), (8, .int v8), (7, .int v7), (6, .int ((nI (rmis (S.2.1.2.1 i) (pn S.1))))), (5, .ref (49 + c)), (4, .int ((nI i))), (3, .ref 48), (2, .int ((nI (pn S.1)))), (1, .ref 0), (0, .ref 1041)]) hG 1 rfl [0, 1, 2, 3, 4, 5, 6, 7, 8, 9, 10, 11, 12, 13] (nI_1s) (by decide) rfl dL_law_377 ?_
    refine z_goto (pc := 380) (tgt := 351) hG dL_law_380 rfl ?_
    refine z_sub (ls' := [(13, .int (nI (f + 1))), (12, .int (nI (wSum S.1 T (f + 1)))), (11, .int (nI (nws S.1 (S.2.1.2.1 i) T))), (10, .int (nI T)), (9, .int v9), (8, .int v8), (7, .int v7), (6, .int (nI (rmis (S.2.1.2.1 i) (pn S.1)))), (5, .ref (49 + c)), (4, .int (nI i)), (3, .ref 48), (2, .int (nI (pn S.1))), (1, .ref 0), (0, .ref 1041)]) [0, 1, 2, 3, 4, 5, 6, 7, 8, 9, 10, 11, 12, 13] rfl ?_
    exact kk
  · have hb : T.testBit f = false := by
      cases h : T.testBit f
      · rfl
      · exact absurd h hb
    have hsn : nI (wSum S.1 T f) + nI (0 * pw S.1 f) = nI (wSum S.1 T (f + 1)) := by
      rw [nI_add, hs, if_neg (by rw [hb]; decide), Nat.zero_mul]
      rfl
    rw [show (((nI T) >>> ((nI f) &&& 31)) &&& (1 : Int32)) = (nI 0) from bit_n hT (by omega) hb]
    refine z_aload_n (pc := 366) hG 12 rfl rfl dL_law_366 ?_
    refine z_iload (pc := 367) hG 0 rfl dL_law_367 ?_
    refine z_iconst (pc := 369) (v := (1 : Int32)) hG (by decide) dL_law_369 ?_
    refine z_virtS (pc := 370) (A' := A) (B' := B) (st2 := [.int ((nI (pw S.1 f))), .int ((nI 0)), .int ((nI (wSum S.1 T f)))]) (v := some (.int ((nI (pw S.1 f))))) hG [.int ((nI f)), .int ((1 : Int32))] [.int ((nI 0)), .int ((nI (wSum S.1 T f)))] zc_X10 (zEo_0 _) (q_field1 hl0 (zEg_f _ _) hW.1 hf) zy_X10_field ⟨w33, w34⟩ w32 dL_law_370 rfl (Nat.le_of_ble_eq_true rfl) (Nat.le_refl _) (zand rfl (zand rfl rfl)) (zand rfl (zand rfl (zand rfl (zand rfl (zand rfl (zand rfl (zand rfl (zand rfl (zand (zog_N _ _) (zand rfl (zand (zog_48 _ _) (zand rfl (zand (zo_0 _) (zand (zoks_hi (by decide)) rfl)))))))))))))) rfl rfl (Nat.le_of_ble_eq_true rfl) rfl rfl ?_
    refine z_imul (pc := 373) hG dL_law_373 ?_
    rw [show ((nI 0) * (nI (pw S.1 f))) = (nI (0 * pw S.1 f)) from pk_mul 0 (pw S.1 f)]
    refine z_iadd (pc := 374) hG dL_law_374 ?_
    rw [show ((nI (wSum S.1 T f)) + (nI (0 * pw S.1 f))) = (nI (wSum S.1 T (f + 1))) from hsn]
    refine z_istore (pc := 375) (ls' := [(12, .int ((nI (wSum S.1 T (f + 1))))), (13, .int ((nI f))), (11, .int ((nI (nws S.1 (S.2.1.2.1 i) T)))), (10, .int ((nI T))), (9, .int v9), (8, .int v8), (7, .int v7), (6, .int ((nI (rmis (S.2.1.2.1 i) (pn S.1))))), (5, .ref (49 + c)), (4, .int ((nI i))), (3, .ref 48), (2, .int ((nI (pn S.1)))), (1, .ref 0), (0, .ref 1041)]) hG [0, 1, 2, 3, 4, 5, 6, 7, 8, 9, 10, 11, 12, 13] (by decide) rfl dL_law_375 ?_
    refine z_iinc (pc := 377) (v := (nI (f + 1))) (ls' := [(13, .int ((nI (f + 1)))), (12, .int ((nI (wSum S.1 T (f + 1))))), (11, .int ((nI (nws S.1 (S.2.1.2.1 i) T)))), (10, .int ((nI T))), (9, .int v9), (8, .int v8), (7, .int v7), (6, .int ((nI (rmis (S.2.1.2.1 i) (pn S.1))))), (5, .ref (49 + c)), (4, .int ((nI i))), (3, .ref 48), (2, .int ((nI (pn S.1)))), (1, .ref 0), (0, .ref 1041)]) hG 1 rfl [0, 1, 2, 3, 4, 5, 6, 7, 8, 9, 10, 11, 12, 13] (nI_1s) (by decide) rfl dL_law_377 ?_
    refine z_goto (pc := 380) (tgt := 351) hG dL_law_380 rfl ?_
    refine z_sub (ls' := [(13, .int (nI (f + 1))), (12, .int (nI (wSum S.1 T (f + 1)))), (11, .int (nI (nws S.1 (S.2.1.2.1 i) T))), (10, .int (nI T)), (9, .int v9), (8, .int v8), (7, .int v7), (6, .int (nI (rmis (S.2.1.2.1 i) (pn S.1)))), (5, .ref (49 + c)), (4, .int (nI i)), (3, .ref 48), (2, .int (nI (pn S.1))), (1, .ref 0), (0, .ref 1041)]) [0, 1, 2, 3, 4, 5, 6, 7, 8, 9, 10, 11, 12, 13] rfl ?_
    exact kk
theorem wt_all {l : Launch} (hl0 : l.flags = flags0) {S : zSt} {σ : zS} {c i : Nat} (hB : lwB S c i) (hW : lwW S c i σ) {T : Nat} {v7 v8 v9 : Int32} (hT : T < 2147483648) : ∀ (q f : Nat), f + q = pn S.1 → ∀ (A B : Nat) x, zG x cL_law 18 RL ret ∧ zl0 x = l → zK x 70 383 [(12, .int (nI (wSum S.1 T (pn S.1)))), (11, .int (nI (nws S.1 (S.2.1.2.1 i) T))), (10, .int (nI T)), (9, .int v9), (8, .int v8), (7, .int v7), (6, .int (nI (rmis (S.2.1.2.1 i) (pn S.1)))), (5, .ref (49 + c)), (4, .int (nI i)), (3, .ref 48), (2, .int (nI (pn S.1))), (1, .ref 0), (0, .ref 1041)] [] (zD ++ zEg c (pn S.1)) σ A B → zK x 70 351 [(13, .int (nI f)), (12, .int (nI (wSum S.1 T f))), (11, .int (nI (nws S.1 (S.2.1.2.1 i) T))), (10, .int (nI T)), (9, .int v9), (8, .int v8), (7, .int v7), (6, .int (nI (rmis (S.2.1.2.1 i) (pn S.1)))), (5, .ref (49 + c)), (4, .int (nI i)), (3, .ref 48), (2, .int (nI (pn S.1))), (1, .ref 0), (0, .ref 1041)] [] (zD ++ zEg c (pn S.1)) σ (A + 2 * q) (B + 12 * q)
  | 0, f, h, A, B, x, hx, kk => by
    obtain rfl : f = pn S.1 := h
    have hG := hx.1
    refine z_iload (pc := 351) hG 0 rfl dL_law_351 ?_
    refine z_iload_n (pc := 353) hG 11 rfl rfl dL_law_353 ?_
    refine z_icmp_ge (pc := 354) (tgt := 383) hG dL_law_354 rfl (fun _ => ?_) (fun hbr => False.elim (hbr (Int32.le_refl _)))
    refine z_sub (ls' := [(12, .int (nI (wSum S.1 T (pn S.1)))), (11, .int (nI (nws S.1 (S.2.1.2.1 i) T))), (10, .int (nI T)), (9, .int v9), (8, .int v8), (7, .int v7), (6, .int (nI (rmis (S.2.1.2.1 i) (pn S.1)))), (5, .ref (49 + c)), (4, .int (nI i)), (3, .ref 48), (2, .int (nI (pn S.1))), (1, .ref 0), (0, .ref 1041)]) [1, 2, 3, 4, 5, 6, 7, 8, 9, 10, 11, 12, 13] rfl ?_
    exact kk
  | q + 1, f, h, A, B, x, hx, kk => z_wk (A' := A + 2 * q + 2) (B' := B + 12 * q + 12) (by omega) (by omega) (wt_one hl0 hB hW hT (by omega) _ _ x hx (wt_all hl0 hB hW hT q (f + 1) (by omega) A B x hx kk))
theorem up_A {l : Launch} (hl0 : l.flags = flags0) {S : zSt} {σ : zS} {c i : Nat} (hB : lwB S c i) (hW : lwW S c i σ) {T k0 w0 q0 : Nat} (hT64 : T < 64) {v8 v9 : Int32} : ∀ (A B : Nat) x, zG x cL_law 18 RL ret ∧ zl0 x = l → zK x 70 472 [(10, .int (nI T)), (9, .int (nI 1)), (8, .int (nI (wSum S.1 T (pn S.1)))), (7, .int (nI T)), (6, .int (nI (rmis (S.2.1.2.1 i) (pn S.1)))), (5, .ref (49 + c)), (4, .int (nI i)), (3, .ref 48), (2, .int (nI (pn S.1))), (1, .ref 0), (0, .ref 1041)] [] (zD ++ zEg c (pn S.1)) σ A B → zK x 70 383 [(12, .int (nI (wSum S.1 T (pn S.1)))), (11, .int (nI (nws S.1 (S.2.1.2.1 i) T))), (10, .int (nI T)), (9, .int v9), (8, .int v8), (7, .int (-1 : Int32)), (6, .int (nI (rmis (S.2.1.2.1 i) (pn S.1)))), (5, .ref (49 + c)), (4, .int (nI i)), (3, .ref 48), (2, .int (nI (pn S.1))), (1, .ref 0), (0, .ref 1041)] [] (zD ++ zEg c (pn S.1)) σ A B := by
  have hwl : wSum S.1 T (pn S.1) ≤ 9 * pn S.1 := wSum_le hW.1.1 T _ (Nat.le_refl _)
  have hn4 := hB.1.2.1
  have hp1 := pcn_le6 T
  have hp2 := pcn_le6 k0
  rintro A B x ⟨hG, hxl⟩ kk
  subst hxl
  refine z_iload (pc := 383) hG 5 rfl dL_law_383 ?_
  refine z_if_lt (pc := 385) (tgt := 415) hG dL_law_385 rfl (fun _ => ?_) (fun hbr => False.elim (hbr (by decide)))
  refine z_iconst (pc := 415) (v := (1 : Int32)) hG (by decide) dL_law_415 ?_
  refine z_goto (pc := 416) (tgt := 420) hG dL_law_416 rfl ?_
  refine z_istore (pc := 420) (ls' := [(13, .int ((1 : Int32))), (12, .int ((nI (wSum S.1 T (pn S.1))))), (11, .int ((nI (nws S.1 (S.2.1.2.1 i) T)))), (10, .int ((nI T))), (9, .int v9), (8, .int v8), (7, .int ((-1 : Int32))), (6, .int ((nI (rmis (S.2.1.2.1 i) (pn S.1))))), (5, .ref (49 + c)), (4, .int ((nI i))), (3, .ref 48), (2, .int ((nI (pn S.1)))), (1, .ref 0), (0, .ref 1041)]) hG [0, 1, 2, 3, 4, 5, 6, 7, 8, 9, 10, 11, 12, 13] (by decide) rfl dL_law_420 ?_
  refine z_iload (pc := 422) hG 6 rfl dL_law_422 ?_
  refine z_if_lt (pc := 424) (tgt := 434) hG dL_law_424 rfl (fun _ => ?_) (fun hbr => False.elim (hbr (by decide)))
  refine z_iconst (pc := 434) (v := (1 : Int32)) hG (by decide) dL_law_434 ?_
  refine z_goto (pc := 435) (tgt := 454) hG dL_law_435 rfl ?_
  refine z_istore (pc := 454) (ls' := [(9, .int ((1 : Int32))), (13, .int ((1 : Int32))), (12, .int ((nI (wSum S.1 T (pn S.1))))), (11, .int ((nI (nws S.1 (S.2.1.2.1 i) T)))), (10, .int ((nI T))), (8, .int v8), (7, .int ((-1 : Int32))), (6, .int ((nI (rmis (S.2.1.2.1 i) (pn S.1))))), (5, .ref (49 + c)), (4, .int ((nI i))), (3, .ref 48), (2, .int ((nI (pn S.1)))), (1, .ref 0), (0, .ref 1041)]) hG [0, 1, 2, 3, 4, 5, 6, 7, 8, 9, 10, 11, 12, 13] (by decide) rfl dL_law_454 ?_
  refine z_iload (pc := 456) hG 1 rfl dL_law_456 ?_
  refine z_if_ne (pc := 458) (tgt := 464) hG dL_law_458 rfl (fun _ => ?_) (fun hbr => False.elim ((fun h => absurd h (by decide)) hbr))
  refine z_iload (pc := 464) hG 4 rfl dL_law_464 ?_
  refine z_istore (pc := 466) (ls' := [(7, .int ((nI T))), (9, .int ((1 : Int32))), (13, .int ((1 : Int32))), (12, .int ((nI (wSum S.1 T (pn S.1))))), (11, .int ((nI (nws S.1 (S.2.1.2.1 i) T)))), (10, .int ((nI T))), (8, .int v8), (6, .int ((nI (rmis (S.2.1.2.1 i) (pn S.1))))), (5, .ref (49 + c)), (4, .int ((nI i))), (3, .ref 48), (2, .int ((nI (pn S.1)))), (1, .ref 0), (0, .ref 1041)]) hG [0, 1, 2, 3, 4, 5, 6, 7, 8, 9, 10, 11, 12, 13] (by decide) rfl dL_law_466 ?_
  refine z_iload (pc := 468) hG 3 rfl dL_law_468 ?_
  refine z_istore (pc := 470) (ls' := [(8, .int ((nI (wSum S.1 T (pn S.1))))), (7, .int ((nI T))), (9, .int ((1 : Int32))), (13, .int ((1 : Int32))), (12, .int ((nI (wSum S.1 T (pn S.1))))), (11, .int ((nI (nws S.1 (S.2.1.2.1 i) T)))), (10, .int ((nI T))), (6, .int ((nI (rmis (S.2.1.2.1 i) (pn S.1))))), (5, .ref (49 + c)), (4, .int ((nI i))), (3, .ref 48), (2, .int ((nI (pn S.1)))), (1, .ref 0), (0, .ref 1041)]) hG [0, 1, 2, 3, 4, 5, 6, 7, 8, 9, 10, 11, 12, 13] (by decide) rfl dL_law_470 ?_
  refine z_sub (ls' := [(10, .int (nI T)), (9, .int (nI 1)), (8, .int (nI (wSum S.1 T (pn S.1)))), (7, .int (nI T)), (6, .int (nI (rmis (S.2.1.2.1 i) (pn S.1)))), (5, .ref (49 + c)), (4, .int (nI i)), (3, .ref 48), (2, .int (nI (pn S.1))), (1, .ref 0), (0, .ref 1041)]) [6, 2, 0, 1, 7, 8, 9, 10, 11, 12, 13] rfl ?_
  exact kk
theorem up_B {l : Launch} (hl0 : l.flags = flags0) {S : zSt} {σ : zS} {c i : Nat} (hB : lwB S c i) (hW : lwW S c i σ) {T k0 w0 q0 : Nat} (hT64 : T < 64) {v9 : Int32} (hk64 : k0 < 64) (hw0 : w0 < 100) (hw : wSum S.1 T (pn S.1) < w0) : ∀ (A B : Nat) x, zG x cL_law 18 RL ret ∧ zl0 x = l → zK x 70 472 [(10, .int (nI T)), (9, .int (nI 1)), (8, .int (nI (wSum S.1 T (pn S.1)))), (7, .int (nI T)), (6, .int (nI (rmis (S.2.1.2.1 i) (pn S.1)))), (5, .ref (49 + c)), (4, .int (nI i)), (3, .ref 48), (2, .int (nI (pn S.1))), (1, .ref 0), (0, .ref 1041)] [] (zD ++ zEg c (pn S.1)) σ A B → zK x 70 383 [(12, .int (nI (wSum S.1 T (pn S.1)))), (11, .int (nI (nws S.1 (S.2.1.2.1 i) T))), (10, .int (nI T)), (9, .int v9), (8, .int (nI w0)), (7, .int (nI k0)), (6, .int (nI (rmis (S.2.1.2.1 i) (pn S.1)))), (5, .ref (49 + c)), (4, .int (nI i)), (3, .ref 48), (2, .int (nI (pn S.1))), (1, .ref 0), (0, .ref 1041)] [] (zD ++ zEg c (pn S.1)) σ A B := by
  have hwl : wSum S.1 T (pn S.1) ≤ 9 * pn S.1 := wSum_le hW.1.1 T _ (Nat.le_refl _)
  have hn4 := hB.1.2.1
  have hp1 := pcn_le6 T
  have hp2 := pcn_le6 k0
  rintro A B x ⟨hG, hxl⟩ kk
  subst hxl
  refine z_iload (pc := 383) hG 5 rfl dL_law_383 ?_
  refine z_if_lt (pc := 385) (tgt := 415) hG dL_law_385 rfl (fun hbr => False.elim ((fun h => nI_nn (by omega) h) hbr)) (fun _ => ?_)
  refine z_iload (pc := 388) hG 0 rfl dL_law_388 ?_
  refine z_iload (pc := 390) hG 4 rfl dL_law_390 ?_
  refine z_icmp_lt (pc := 392) (tgt := 415) hG dL_law_392 rfl (fun _ => ?_) (fun hbr => False.elim (hbr (nI_lt hw (by omega))))
  refine z_iconst (pc := 415) (v := (1 : Int32)) hG (by decide) dL_law_415 ?_
  refine z_goto (pc := 416) (tgt := 420) hG dL_law_416 rfl ?_
  refine z_istore (pc := 420) (ls' := [(13, .int ((1 : Int32))), (12, .int ((nI (wSum S.1 T (pn S.1))))), (11, .int ((nI (nws S.1 (S.2.1.2.1 i) T)))), (10, .int ((nI T))), (9, .int v9), (8, .int ((nI w0))), (7, .int ((nI k0))), (6, .int ((nI (rmis (S.2.1.2.1 i) (pn S.1))))), (5, .ref (49 + c)), (4, .int ((nI i))), (3, .ref 48), (2, .int ((nI (pn S.1)))), (1, .ref 0), (0, .ref 1041)]) hG [0, 1, 2, 3, 4, 5, 6, 7, 8, 9, 10, 11, 12, 13] (by decide) rfl dL_law_420 ?_
  refine z_iload (pc := 422) hG 6 rfl dL_law_422 ?_
  refine z_if_lt (pc := 424) (tgt := 434) hG dL_law_424 rfl (fun hbr => False.elim ((fun h => nI_nn (by omega) h) hbr)) (fun _ => ?_)
  refine z_iload (pc := 427) hG 1 rfl dL_law_427 ?_
  refine z_iload (pc := 429) hG 5 rfl dL_law_429 ?_
  refine z_icmp_ge (pc := 431) (tgt := 438) hG dL_law_431 rfl (fun hbr => False.elim ((fun h => nI_nle2 hw (by omega) h) hbr)) (fun _ => ?_)
  refine z_iconst (pc := 434) (v := (1 : Int32)) hG (by decide) dL_law_434 ?_
  refine z_goto (pc := 435) (tgt := 454) hG dL_law_435 rfl ?_
  refine z_istore (pc := 454) (ls' := [(9, .int ((1 : Int32))), (13, .int ((1 : Int32))), (12, .int ((nI (wSum S.1 T (pn S.1))))), (11, .int ((nI (nws S.1 (S.2.1.2.1 i) T)))), (10, .int ((nI T))), (8, .int ((nI w0))), (7, .int ((nI k0))), (6, .int ((nI (rmis (S.2.1.2.1 i) (pn S.1))))), (5, .ref (49 + c)), (4, .int ((nI i))), (3, .ref 48), (2, .int ((nI (pn S.1)))), (1, .ref 0), (0, .ref 1041)]) hG [0, 1, 2, 3, 4, 5, 6, 7, 8, 9, 10, 11, 12, 13] (by decide) rfl dL_law_454 ?_
  refine z_iload (pc := 456) hG 1 rfl dL_law_456 ?_
  refine z_if_ne (pc := 458) (tgt := 464) hG dL_law_458 rfl (fun _ => ?_) (fun hbr => False.elim ((fun h => absurd h (by decide)) hbr))
  refine z_iload (pc := 464) hG 4 rfl dL_law_464 ?_
  refine z_istore (pc := 466) (ls' := [(7, .int ((nI T))), (9, .int ((1 : Int32))), (13, .int ((1 : Int32))), (12, .int ((nI (wSum S.1 T (pn S.1))))), (11, .int ((nI (nws S.1 (S.2.1.2.1 i) T)))), (10, .int ((nI T))), (8, .int ((nI w0))), (6, .int ((nI (rmis (S.2.1.2.1 i) (pn S.1))))), (5, .ref (49 + c)), (4, .int ((nI i))), (3, .ref 48), (2, .int ((nI (pn S.1)))), (1, .ref 0), (0, .ref 1041)]) hG [0, 1, 2, 3, 4, 5, 6, 7, 8, 9, 10, 11, 12, 13] (by decide) rfl dL_law_466 ?_
  refine z_iload (pc := 468) hG 3 rfl dL_law_468 ?_
  refine z_istore (pc := 470) (ls' := [(8, .int ((nI (wSum S.1 T (pn S.1))))), (7, .int ((nI T))), (9, .int ((1 : Int32))), (13, .int ((1 : Int32))), (12, .int ((nI (wSum S.1 T (pn S.1))))), (11, .int ((nI (nws S.1 (S.2.1.2.1 i) T)))), (10, .int ((nI T))), (6, .int ((nI (rmis (S.2.1.2.1 i) (pn S.1))))), (5, .ref (49 + c)), (4, .int ((nI i))), (3, .ref 48), (2, .int ((nI (pn S.1)))), (1, .ref 0), (0, .ref 1041)]) hG [0, 1, 2, 3, 4, 5, 6, 7, 8, 9, 10, 11, 12, 13] (by decide) rfl dL_law_470 ?_
  refine z_sub (ls' := [(10, .int (nI T)), (9, .int (nI 1)), (8, .int (nI (wSum S.1 T (pn S.1)))), (7, .int (nI T)), (6, .int (nI (rmis (S.2.1.2.1 i) (pn S.1)))), (5, .ref (49 + c)), (4, .int (nI i)), (3, .ref 48), (2, .int (nI (pn S.1))), (1, .ref 0), (0, .ref 1041)]) [6, 2, 0, 1, 7, 8, 9, 10, 11, 12, 13] rfl ?_
  exact kk
theorem up_C {l : Launch} (hl0 : l.flags = flags0) {S : zSt} {σ : zS} {c i : Nat} (hB : lwB S c i) (hW : lwW S c i σ) {T k0 w0 q0 : Nat} (hT64 : T < 64) (hk64 : k0 < 64) (hw0 : w0 < 100) (hw : wSum S.1 T (pn S.1) = w0) (hp : pcn T < pcn k0) : ∀ (A B : Nat) x, zG x cL_law 18 RL ret ∧ zl0 x = l → zK x 70 472 [(10, .int (nI T)), (9, .int (nI (q0 + 1))), (8, .int (nI (wSum S.1 T (pn S.1)))), (7, .int (nI T)), (6, .int (nI (rmis (S.2.1.2.1 i) (pn S.1)))), (5, .ref (49 + c)), (4, .int (nI i)), (3, .ref 48), (2, .int (nI (pn S.1))), (1, .ref 0), (0, .ref 1041)] [] (zD ++ zEg c (pn S.1)) σ A B → zK x 70 383 [(12, .int (nI (wSum S.1 T (pn S.1)))), (11, .int (nI (nws S.1 (S.2.1.2.1 i) T))), (10, .int (nI T)), (9, .int (nI q0)), (8, .int (nI w0)), (7, .int (nI k0)), (6, .int (nI (rmis (S.2.1.2.1 i) (pn S.1)))), (5, .ref (49 + c)), (4, .int (nI i)), (3, .ref 48), (2, .int (nI (pn S.1))), (1, .ref 0), (0, .ref 1041)] [] (zD ++ zEg c (pn S.1)) σ A B := by
  have hwl : wSum S.1 T (pn S.1) ≤ 9 * pn S.1 := wSum_le hW.1.1 T _ (Nat.le_refl _)
  have hn4 := hB.1.2.1
  have hp1 := pcn_le6 T
  have hp2 := pcn_le6 k0
  rintro A B x ⟨hG, hxl⟩ kk
  subst hxl
  refine z_iload (pc := 383) hG 5 rfl dL_law_383 ?_
  refine z_if_lt (pc := 385) (tgt := 415) hG dL_law_385 rfl (fun hbr => False.elim ((fun h => nI_nn (by omega) h) hbr)) (fun _ => ?_)
  refine z_iload (pc := 388) hG 0 rfl dL_law_388 ?_
  refine z_iload (pc := 390) hG 4 rfl dL_law_390 ?_
  refine z_icmp_lt (pc := 392) (tgt := 415) hG dL_law_392 rfl (fun hbr => False.elim ((fun h => nI_nlt (by omega) (by omega) h) hbr)) (fun _ => ?_)
  refine z_iload (pc := 395) hG 0 rfl dL_law_395 ?_
  refine z_iload (pc := 397) hG 4 rfl dL_law_397 ?_
  refine z_icmp_ne (pc := 399) (tgt := 419) hG dL_law_399 rfl (fun hbr => False.elim ((fun h => h (congrArg nI hw)) hbr)) (fun _ => ?_)
  refine z_iload (pc := 402) hG 2 rfl dL_law_402 ?_
  refine z_statS (pc := 404) (A' := A) (B' := B) (st2 := [.int ((nI (pcn T)))]) (v := some (.int ((nI (pcn T))))) hG [.int ((nI T))] [] (q_bits hl0 (zEg_f _ _) hT64) zy_J6_bitCount_0f7a4 w400 w1265 dL_law_404 rfl (Nat.le_of_ble_eq_true rfl) (Nat.le_refl _) rfl (zand rfl (zand rfl (zand rfl (zand rfl (zand rfl (zand rfl (zand rfl (zand (zog_N _ _) (zand rfl (zand (zog_48 _ _) (zand rfl (zand (zo_0 _) (zand (zoks_hi (by decide)) rfl))))))))))))) rfl rfl (Nat.le_of_ble_eq_true rfl) rfl rfl ?_
  refine z_iload (pc := 407) hG 5 rfl dL_law_407 ?_
  refine z_statS (pc := 409) (A' := A) (B' := B) (st2 := [.int ((nI (pcn k0))), .int ((nI (pcn T)))]) (v := some (.int ((nI (pcn k0))))) hG [.int ((nI k0))] [.int ((nI (pcn T)))] (q_bits hl0 (zEg_f _ _) hk64) zy_J6_bitCount_0f7a4 w400 w1265 dL_law_409 rfl (Nat.le_of_ble_eq_true rfl) (Nat.le_refl _) (zand rfl rfl) (zand rfl (zand rfl (zand rfl (zand rfl (zand rfl (zand rfl (zand rfl (zand (zog_N _ _) (zand rfl (zand (zog_48 _ _) (zand rfl (zand (zo_0 _) (zand (zoks_hi (by decide)) rfl))))))))))))) rfl rfl (Nat.le_of_ble_eq_true rfl) rfl rfl ?_
  refine z_icmp_ge (pc := 412) (tgt := 419) hG dL_law_412 rfl (fun hbr => False.elim ((fun h => nI_nle2 hp (by omega) h) hbr)) (fun _ => ?_)
  refine z_iconst (pc := 415) (v := (1 : Int32)) hG (by decide) dL_law_415 ?_
  refine z_goto (pc := 416) (tgt := 420) hG dL_law_416 rfl ?_
  refine z_istore (pc := 420) (ls' := [(13, .int ((1 : Int32))), (12, .int ((nI (wSum S.1 T (pn S.1))))), (11, .int ((nI (nws S.1 (S.2.1.2.1 i) T)))), (10, .int ((nI T))), (9, .int ((nI q0))), (8, .int ((nI w0))), (7, .int ((nI k0))), (6, .int ((nI (rmis (S.2.1.2.1 i) (pn S.1))))), (5, .ref (49 + c)), (4, .int ((nI i))), (3, .ref 48), (2, .int ((nI (pn S.1)))), (1, .ref 0), (0, .ref 1041)]) hG [0, 1, 2, 3, 4, 5, 6, 7, 8, 9, 10, 11, 12, 13] (by decide) rfl dL_law_420 ?_
  refine z_iload (pc := 422) hG 6 rfl dL_law_422 ?_
  refine z_if_lt (pc := 424) (tgt := 434) hG dL_law_424 rfl (fun hbr => False.elim ((fun h => nI_nn (by omega) h) hbr)) (fun _ => ?_)
  refine z_iload (pc := 427) hG 1 rfl dL_law_427 ?_
  refine z_iload (pc := 429) hG 5 rfl dL_law_429 ?_
  refine z_icmp_ge (pc := 431) (tgt := 438) hG dL_law_431 rfl (fun _ => ?_) (fun hbr => False.elim (hbr (nI_le (by omega) (by omega))))
  refine z_iload (pc := 438) hG 1 rfl dL_law_438 ?_
  refine z_iload (pc := 440) hG 5 rfl dL_law_440 ?_
  refine z_icmp_ne (pc := 442) (tgt := 452) hG dL_law_442 rfl (fun hbr => False.elim ((fun h => h (congrArg nI hw)) hbr)) (fun _ => ?_)
  refine z_iload (pc := 445) hG 4 rfl dL_law_445 ?_
  refine z_iconst (pc := 447) (v := (1 : Int32)) hG (by decide) dL_law_447 ?_
  refine z_iadd (pc := 448) hG dL_law_448 ?_
  rw [show ((nI q0) + (1 : Int32)) = (nI (q0 + 1)) from nI_s q0]
  refine z_goto (pc := 449) (tgt := 454) hG dL_law_449 rfl ?_
  refine z_istore (pc := 454) (ls' := [(9, .int ((nI (q0 + 1)))), (13, .int ((1 : Int32))), (12, .int ((nI (wSum S.1 T (pn S.1))))), (11, .int ((nI (nws S.1 (S.2.1.2.1 i) T)))), (10, .int ((nI T))), (8, .int ((nI w0))), (7, .int ((nI k0))), (6, .int ((nI (rmis (S.2.1.2.1 i) (pn S.1))))), (5, .ref (49 + c)), (4, .int ((nI i))), (3, .ref 48), (2, .int ((nI (pn S.1)))), (1, .ref 0), (0, .ref 1041)]) hG [0, 1, 2, 3, 4, 5, 6, 7, 8, 9, 10, 11, 12, 13] (by decide) rfl dL_law_454 ?_
  refine z_iload (pc := 456) hG 1 rfl dL_law_456 ?_
  refine z_if_ne (pc := 458) (tgt := 464) hG dL_law_458 rfl (fun _ => ?_) (fun hbr => False.elim ((fun h => absurd h (by decide)) hbr))
  refine z_iload (pc := 464) hG 4 rfl dL_law_464 ?_
  refine z_istore (pc := 466) (ls' := [(7, .int ((nI T))), (9, .int ((nI (q0 + 1)))), (13, .int ((1 : Int32))), (12, .int ((nI (wSum S.1 T (pn S.1))))), (11, .int ((nI (nws S.1 (S.2.1.2.1 i) T)))), (10, .int ((nI T))), (8, .int ((nI w0))), (6, .int ((nI (rmis (S.2.1.2.1 i) (pn S.1))))), (5, .ref (49 + c)), (4, .int ((nI i))), (3, .ref 48), (2, .int ((nI (pn S.1)))), (1, .ref 0), (0, .ref 1041)]) hG [0, 1, 2, 3, 4, 5, 6, 7, 8, 9, 10, 11, 12, 13] (by decide) rfl dL_law_466 ?_
  refine z_iload (pc := 468) hG 3 rfl dL_law_468 ?_
  refine z_istore (pc := 470) (ls' := [(8, .int ((nI (wSum S.1 T (pn S.1))))), (7, .int ((nI T))), (9, .int ((nI (q0 + 1)))), (13, .int ((1 : Int32))), (12, .int ((nI (wSum S.1 T (pn S.1))))), (11, .int ((nI (nws S.1 (S.2.1.2.1 i) T)))), (10, .int ((nI T))), (6, .int ((nI (rmis (S.2.1.2.1 i) (pn S.1))))), (5, .ref (49 + c)), (4, .int ((nI i))), (3, .ref 48), (2, .int ((nI (pn S.1)))), (1, .ref 0), (0, .ref 1041)]) hG [0, 1, 2, 3, 4, 5, 6, 7, 8, 9, 10, 11, 12, 13] (by decide) rfl dL_law_470 ?_
  refine z_sub (ls' := [(10, .int (nI T)), (9, .int (nI (q0 + 1))), (8, .int (nI (wSum S.1 T (pn S.1)))), (7, .int (nI T)), (6, .int (nI (rmis (S.2.1.2.1 i) (pn S.1)))), (5, .ref (49 + c)), (4, .int (nI i)), (3, .ref 48), (2, .int (nI (pn S.1))), (1, .ref 0), (0, .ref 1041)]) [6, 2, 0, 1, 7, 8, 9, 10, 11, 12, 13] rfl ?_
  exact kk
theorem up_D {l : Launch} (hl0 : l.flags = flags0) {S : zSt} {σ : zS} {c i : Nat} (hB : lwB S c i) (hW : lwW S c i σ) {T k0 w0 q0 : Nat} (hT64 : T < 64) (hk64 : k0 < 64) (hw0 : w0 < 100) (hw : wSum S.1 T (pn S.1) = w0) (hp : pcn k0 ≤ pcn T) : ∀ (A B : Nat) x, zG x cL_law 18 RL ret ∧ zl0 x = l → zK x 70 472 [(10, .int (nI T)), (9, .int (nI (q0 + 1))), (8, .int (nI w0)), (7, .int (nI k0)), (6, .int (nI (rmis (S.2.1.2.1 i) (pn S.1)))), (5, .ref (49 + c)), (4, .int (nI i)), (3, .ref 48), (2, .int (nI (pn S.1))), (1, .ref 0), (0, .ref 1041)] [] (zD ++ zEg c (pn S.1)) σ A B → zK x 70 383 [(12, .int (nI (wSum S.1 T (pn S.1)))), (11, .int (nI (nws S.1 (S.2.1.2.1 i) T))), (10, .int (nI T)), (9, .int (nI q0)), (8, .int (nI w0)), (7, .int (nI k0)), (6, .int (nI (rmis (S.2.1.2.1 i) (pn S.1)))), (5, .ref (49 + c)), (4, .int (nI i)), (3, .ref 48), (2, .int (nI (pn S.1))), (1, .ref 0), (0, .ref 1041)] [] (zD ++ zEg c (pn S.1)) σ A B := by
  have hwl : wSum S.1 T (pn S.1) ≤ 9 * pn S.1 := wSum_le hW.1.1 T _ (Nat.le_refl _)
  have hn4 := hB.1.2.1
  have hp1 := pcn_le6 T
  have hp2 := pcn_le6 k0
  rintro A B x ⟨hG, hxl⟩ kk
  subst hxl
  refine z_iload (pc := 383) hG 5 rfl dL_law_383 ?_
  refine z_if_lt (pc := 385) (tgt := 415) hG dL_law_385 rfl (fun hbr => False.elim ((fun h => nI_nn (by omega) h) hbr)) (fun _ => ?_)
  refine z_iload (pc := 388) hG 0 rfl dL_law_388 ?_
  refine z_iload (pc := 390) hG 4 rfl dL_law_390 ?_
  refine z_icmp_lt (pc := 392) (tgt := 415) hG dL_law_392 rfl (fun hbr => False.elim ((fun h => nI_nlt (by omega) (by omega) h) hbr)) (fun _ => ?_)
  refine z_iload (pc := 395) hG 0 rfl dL_law_395 ?_
  refine z_iload (pc := 397) hG 4 rfl dL_law_397 ?_
  refine z_icmp_ne (pc := 399) (tgt := 419) hG dL_law_399 rfl (fun hbr => False.elim ((fun h => h (congrArg nI hw)) hbr)) (fun _ => ?_)
  refine z_iload (pc := 402) hG 2 rfl dL_law_402 ?_
  refine z_statS (pc := 404) (A' := A) (B' := B) (st2 := [.int ((nI (pcn T)))]) (v := some (.int ((nI (pcn T))))) hG [.int ((nI T))] [] (q_bits hl0 (zEg_f _ _) hT64) zy_J6_bitCount_0f7a4 w400 w1265 dL_law_404 rfl (Nat.le_of_ble_eq_true rfl) (Nat.le_refl _) rfl (zand rfl (zand rfl (zand rfl (zand rfl (zand rfl (zand rfl (zand rfl (zand (zog_N _ _) (zand rfl (zand (zog_48 _ _) (zand rfl (zand (zo_0 _) (zand (zoks_hi (by decide)) rfl))))))))))))) rfl rfl (Nat.le_of_ble_eq_true rfl) rfl rfl ?_
  refine z_iload (pc := 407) hG 5 rfl dL_law_407 ?_
  refine z_statS (pc := 409) (A' := A) (B' := B) (st2 := [.int ((nI (pcn k0))), .int ((nI (pcn T)))]) (v := some (.int ((nI (pcn k0))))) hG [.int ((nI k0))] [.int ((nI (pcn T)))] (q_bits hl0 (zEg_f _ _) hk64) zy_J6_bitCount_0f7a4 w400 w1265 dL_law_409 rfl (Nat.le_of_ble_eq_true rfl) (Nat.le_refl _) (zand rfl rfl) (zand rfl (zand rfl (zand rfl (zand rfl (zand rfl (zand rfl (zand rfl (zand (zog_N _ _) (zand rfl (zand (zog_48 _ _) (zand rfl (zand (zo_0 _) (zand (zoks_hi (by decide)) rfl))))))))))))) rfl rfl (Nat.le_of_ble_eq_true rfl) rfl rfl ?_
  refine z_icmp_ge (pc := 412) (tgt := 419) hG dL_law_412 rfl (fun _ => ?_) (fun hbr => False.elim (hbr (nI_le hp (by omega))))
  refine z_iconst (pc := 419) (v := (0 : Int32)) hG (by decide) dL_law_419 ?_
  refine z_istore (pc := 420) (ls' := [(13, .int ((0 : Int32))), (12, .int ((nI (wSum S.1 T (pn S.1))))), (11, .int ((nI (nws S.1 (S.2.1.2.1 i) T)))), (10, .int ((nI T))), (9, .int ((nI q0))), (8, .int ((nI w0))), (7, .int ((nI k0))), (6, .int ((nI (rmis (S.2.1.2.1 i) (pn S.1))))), (5, .ref (49 + c)), (4, .int ((nI i))), (3, .ref 48), (2, .int ((nI (pn S.1)))), (1, .ref 0), (0, .ref 1041)]) hG [0, 1, 2, 3, 4, 5, 6, 7, 8, 9, 10, 11, 12, 13] (by decide) rfl dL_law_420 ?_
  refine z_iload (pc := 422) hG 6 rfl dL_law_422 ?_
  refine z_if_lt (pc := 424) (tgt := 434) hG dL_law_424 rfl (fun hbr => False.elim ((fun h => nI_nn (by omega) h) hbr)) (fun _ => ?_)
  refine z_iload (pc := 427) hG 1 rfl dL_law_427 ?_
  refine z_iload (pc := 429) hG 5 rfl dL_law_429 ?_
  refine z_icmp_ge (pc := 431) (tgt := 438) hG dL_law_431 rfl (fun _ => ?_) (fun hbr => False.elim (hbr (nI_le (by omega) (by omega))))
  refine z_iload (pc := 438) hG 1 rfl dL_law_438 ?_
  refine z_iload (pc := 440) hG 5 rfl dL_law_440 ?_
  refine z_icmp_ne (pc := 442) (tgt := 452) hG dL_law_442 rfl (fun hbr => False.elim ((fun h => h (congrArg nI hw)) hbr)) (fun _ => ?_)
  refine z_iload (pc := 445) hG 4 rfl dL_law_445 ?_
  refine z_iconst (pc := 447) (v := (1 : Int32)) hG (by decide) dL_law_447 ?_
  refine z_iadd (pc := 448) hG dL_law_448 ?_
  rw [show ((nI q0) + (1 : Int32)) = (nI (q0 + 1)) from nI_s q0]
  refine z_goto (pc := 449) (tgt := 454) hG dL_law_449 rfl ?_
  refine z_istore (pc := 454) (ls' := [(9, .int ((nI (q0 + 1)))), (13, .int ((0 : Int32))), (12, .int ((nI (wSum S.1 T (pn S.1))))), (11, .int ((nI (nws S.1 (S.2.1.2.1 i) T)))), (10, .int ((nI T))), (8, .int ((nI w0))), (7, .int ((nI k0))), (6, .int ((nI (rmis (S.2.1.2.1 i) (pn S.1))))), (5, .ref (49 + c)), (4, .int ((nI i))), (3, .ref 48), (2, .int ((nI (pn S.1)))), (1, .ref 0), (0, .ref 1041)]) hG [0, 1, 2, 3, 4, 5, 6, 7, 8, 9, 10, 11, 12, 13] (by decide) rfl dL_law_454 ?_
  refine z_iload (pc := 456) hG 1 rfl dL_law_456 ?_
  refine z_if_ne (pc := 458) (tgt := 464) hG dL_law_458 rfl (fun hbr => False.elim ((fun h => h rfl) hbr)) (fun _ => ?_)
  refine z_goto (pc := 461) (tgt := 472) hG dL_law_461 rfl ?_
  refine z_sub (ls' := [(10, .int (nI T)), (9, .int (nI (q0 + 1))), (8, .int (nI w0)), (7, .int (nI k0)), (6, .int (nI (rmis (S.2.1.2.1 i) (pn S.1)))), (5, .ref (49 + c)), (4, .int (nI i)), (3, .ref 48), (2, .int (nI (pn S.1))), (1, .ref 0), (0, .ref 1041)]) [4, 0, 5, 6, 7, 8, 9, 10, 11, 12, 13] rfl ?_
  exact kk
theorem up_E {l : Launch} (hl0 : l.flags = flags0) {S : zSt} {σ : zS} {c i : Nat} (hB : lwB S c i) (hW : lwW S c i σ) {T k0 w0 q0 : Nat} (hT64 : T < 64) {v9 : Int32} (hk64 : k0 < 64) (hw0 : w0 < 100) (hw : w0 < wSum S.1 T (pn S.1)) : ∀ (A B : Nat) x, zG x cL_law 18 RL ret ∧ zl0 x = l → zK x 70 472 [(10, .int (nI T)), (9, .int v9), (8, .int (nI w0)), (7, .int (nI k0)), (6, .int (nI (rmis (S.2.1.2.1 i) (pn S.1)))), (5, .ref (49 + c)), (4, .int (nI i)), (3, .ref 48), (2, .int (nI (pn S.1))), (1, .ref 0), (0, .ref 1041)] [] (zD ++ zEg c (pn S.1)) σ A B → zK x 70 383 [(12, .int (nI (wSum S.1 T (pn S.1)))), (11, .int (nI (nws S.1 (S.2.1.2.1 i) T))), (10, .int (nI T)), (9, .int v9), (8, .int (nI w0)), (7, .int (nI k0)), (6, .int (nI (rmis (S.2.1.2.1 i) (pn S.1)))), (5, .ref (49 + c)), (4, .int (nI i)), (3, .ref 48), (2, .int (nI (pn S.1))), (1, .ref 0), (0, .ref 1041)] [] (zD ++ zEg c (pn S.1)) σ A B := by
  have hwl : wSum S.1 T (pn S.1) ≤ 9 * pn S.1 := wSum_le hW.1.1 T _ (Nat.le_refl _)
  have hn4 := hB.1.2.1
  have hp1 := pcn_le6 T
  have hp2 := pcn_le6 k0
  rintro A B x ⟨hG, hxl⟩ kk
  subst hxl
  refine z_iload (pc := 383) hG 5 rfl dL_law_383 ?_
  refine z_if_lt (pc := 385) (tgt := 415) hG dL_law_385 rfl (fun hbr => False.elim ((fun h => nI_nn (by omega) h) hbr)) (fun _ => ?_)
  refine z_iload (pc := 388) hG 0 rfl dL_law_388 ?_
  refine z_iload (pc := 390) hG 4 rfl dL_law_390 ?_
  refine z_icmp_lt (pc := 392) (tgt := 415) hG dL_law_392 rfl (fun hbr => False.elim ((fun h => nI_nlt (by omega) (by omega) h) hbr)) (fun _ => ?_)
  refine z_iload (pc := 395) hG 0 rfl dL_law_395 ?_
  refine z_iload (pc := 397) hG 4 rfl dL_law_397 ?_
  refine z_icmp_ne (pc := 399) (tgt := 419) hG dL_law_399 rfl (fun _ => ?_) (fun hbr => False.elim ((nI_neq (by omega) (by omega) (by omega)) hbr))
  refine z_iconst (pc := 419) (v := (0 : Int32)) hG (by decide) dL_law_419 ?_
  refine z_istore (pc := 420) (ls' := [(13, .int ((0 : Int32))), (12, .int ((nI (wSum S.1 T (pn S.1))))), (11, .int ((nI (nws S.1 (S.2.1.2.1 i) T)))), (10, .int ((nI T))), (9, .int v9), (8, .int ((nI w0))), (7, .int ((nI k0))), (6, .int ((nI (rmis (S.2.1.2.1 i) (pn S.1))))), (5, .ref (49 + c)), (4, .int ((nI i))), (3, .ref 48), (2, .int ((nI (pn S.1)))), (1, .ref 0), (0, .ref 1041)]) hG [0, 1, 2, 3, 4, 5, 6, 7, 8, 9, 10, 11, 12, 13] (by decide) rfl dL_law_420 ?_
  refine z_iload (pc := 422) hG 6 rfl dL_law_422 ?_
  refine z_if_lt (pc := 424) (tgt := 434) hG dL_law_424 rfl (fun hbr => False.elim ((fun h => nI_nn (by omega) h) hbr)) (fun _ => ?_)
  refine z_iload (pc := 427) hG 1 rfl dL_law_427 ?_
  refine z_iload (pc := 429) hG 5 rfl dL_law_429 ?_
  refine z_icmp_ge (pc := 431) (tgt := 438) hG dL_law_431 rfl (fun _ => ?_) (fun hbr => False.elim (hbr (nI_le (by omega) (by omega))))
  refine z_iload (pc := 438) hG 1 rfl dL_law_438 ?_
  refine z_iload (pc := 440) hG 5 rfl dL_law_440 ?_
  refine z_icmp_ne (pc := 442) (tgt := 452) hG dL_law_442 rfl (fun _ => ?_) (fun hbr => False.elim ((nI_neq (by omega) (by omega) (by omega)) hbr))
  refine z_iload (pc := 452) hG 4 rfl dL_law_452 ?_
  refine z_istore (pc := 454) (ls' := [(9, .int v9), (13, .int ((0 : Int32))), (12, .int ((nI (wSum S.1 T (pn S.1))))), (11, .int ((nI (nws S.1 (S.2.1.2.1 i) T)))), (10, .int ((nI T))), (8, .int ((nI w0))), (7, .int ((nI k0))), (6, .int ((nI (rmis (S.2.1.2.1 i) (pn S.1))))), (5, .ref (49 + c)), (4, .int ((nI i))), (3, .ref 48), (2, .int ((nI (pn S.1)))), (1, .ref 0), (0, .ref 1041)]) hG [0, 1, 2, 3, 4, 5, 6, 7, 8, 9, 10, 11, 12, 13] (by decide) rfl dL_law_454 ?_
  refine z_iload (pc := 456) hG 1 rfl dL_law_456 ?_
  refine z_if_ne (pc := 458) (tgt := 464) hG dL_law_458 rfl (fun hbr => False.elim ((fun h => h rfl) hbr)) (fun _ => ?_)
  refine z_goto (pc := 461) (tgt := 472) hG dL_law_461 rfl ?_
  refine z_sub (ls' := [(10, .int (nI T)), (9, .int v9), (8, .int (nI w0)), (7, .int (nI k0)), (6, .int (nI (rmis (S.2.1.2.1 i) (pn S.1)))), (5, .ref (49 + c)), (4, .int (nI i)), (3, .ref 48), (2, .int (nI (pn S.1))), (1, .ref 0), (0, .ref 1041)]) [4, 0, 5, 6, 7, 8, 9, 10, 11, 12, 13] rfl ?_
  exact kk
theorem lwN_bd {P : zPl} (hO : pOK P) (c : Nat) : ∀ n, n ≤ 32 → ((lwN P c n).1 = 99 ∨ (lwN P c n).1 < 32) ∧ (lwN P c n).2.1 < 100 ∧ (lwN P c n).2.2 ≤ n
  | 0, _ => ⟨Or.inl rfl, (show 0 < 100 by decide), Nat.le_refl _⟩
  | n + 1, h => by
    obtain ⟨h1, h2, h3⟩ := lwN_bd hO c n (by omega)
    have hw : wSum P n (pn P) ≤ 9 * pn P := wSum_le hO n _ (Nat.le_refl _)
    have h5 := hO.1
    rw [lwN_s]
    unfold lwS
    generalize lwN P c n = s at h1 h2 h3 ⊢
    by_cases hp : 0 < nws P c n
    · rw [if_pos hp]
      have hk : (if s.1 = 99 ∨ wSum P n (pn P) < s.2.1 then 1 else if wSum P n (pn P) = s.2.1 then s.2.2 + 1 else s.2.2) ≤ n + 1 := by
        split
        · omega
        · split <;> omega
      dsimp only
      by_cases hC : s.1 = 99 ∨ wSum P n (pn P) < s.2.1 ∨ wSum P n (pn P) = s.2.1 ∧ pcn n < pcn s.1
      · rw [if_pos hC]
        exact ⟨Or.inr (show n < 32 by omega), (show wSum P n (pn P) < 100 by omega), hk⟩
      · rw [if_neg hC]
        exact ⟨h1, h2, hk⟩
    · rw [if_neg hp]
      exact ⟨h1, h2, by omega⟩
theorem ls_tail {l : Launch} (hl0 : l.flags = flags0) {S : zSt} {σ : zS} {c i : Nat} (hB : lwB S c i) (hW : lwW S c i σ) {T : Nat} {v7 v8 v9 : Int32} : ∀ (A B : Nat) x, zG x cL_law 18 RL ret ∧ zl0 x = l → zK x 70 88 [(10, .int (nI (T + 1))), (9, .int v9), (8, .int v8), (7, .int v7), (6, .int (nI (rmis (S.2.1.2.1 i) (pn S.1)))), (5, .ref (49 + c)), (4, .int (nI i)), (3, .ref 48), (2, .int (nI (pn S.1))), (1, .ref 0), (0, .ref 1041)] [] (zD ++ zEg c (pn S.1)) σ A B → zK x 70 472 [(10, .int (nI T)), (9, .int v9), (8, .int v8), (7, .int v7), (6, .int (nI (rmis (S.2.1.2.1 i) (pn S.1)))), (5, .ref (49 + c)), (4, .int (nI i)), (3, .ref 48), (2, .int (nI (pn S.1))), (1, .ref 0), (0, .ref 1041)] [] (zD ++ zEg c (pn S.1)) σ A B := by
  rintro A B x ⟨hG, hxl⟩ kk
  subst hxl
  refine z_iinc (pc := 472) (v := (nI (T + 1))) (ls' := [(10, .int ((nI (T + 1)))), (9, .int v9), (8, .int v8), (7, .int v7), (6, .int ((nI (rmis (S.2.1.2.1 i) (pn S.1))))), (5, .ref (49 + c)), (4, .int ((nI i))), (3, .ref 48), (2, .int ((nI (pn S.1)))), (1, .ref 0), (0, .ref 1041)]) hG 0 rfl [0, 1, 2, 3, 4, 5, 6, 7, 8, 9, 10] (nI_1s) (by decide) rfl dL_law_472 ?_
  refine z_goto (pc := 475) (tgt := 88) hG dL_law_475 rfl ?_
  exact kk
theorem ls_upd {l : Launch} (hl0 : l.flags = flags0) {S : zSt} {σ : zS} {c i : Nat} (hB : lwB S c i) (hW : lwW S c i σ) {T : Nat} (hT : T < 16) : ∀ (A B : Nat) x, zG x cL_law 18 RL ret ∧ zl0 x = l → zK x 70 88 [(10, .int (nI (T + 1))), (9, .int (nI (lwN S.1 (S.2.1.2.1 i) (T + 1)).2.2)), (8, .int (nI (lwN S.1 (S.2.1.2.1 i) (T + 1)).2.1)), (7, .int (sI (lwN S.1 (S.2.1.2.1 i) (T + 1)).1)), (6, .int (nI (rmis (S.2.1.2.1 i) (pn S.1)))), (5, .ref (49 + c)), (4, .int (nI i)), (3, .ref 48), (2, .int (nI (pn S.1))), (1, .ref 0), (0, .ref 1041)] [] (zD ++ zEg c (pn S.1)) σ A B → zK x 70 337 [(11, .int (nI (nws S.1 (S.2.1.2.1 i) T))), (10, .int (nI T)), (9, .int (nI (lwN S.1 (S.2.1.2.1 i) T).2.2)), (8, .int (nI (lwN S.1 (S.2.1.2.1 i) T).2.1)), (7, .int (sI (lwN S.1 (S.2.1.2.1 i) T).1)), (6, .int (nI (rmis (S.2.1.2.1 i) (pn S.1)))), (5, .ref (49 + c)), (4, .int (nI i)), (3, .ref 48), (2, .int (nI (pn S.1))), (1, .ref 0), (0, .ref 1041)] [] (zD ++ zEg c (pn S.1)) σ (A + 8) (B + 48) := by
  have hn4 := hB.1.2.1
  have hO := hW.1.1
  obtain ⟨hs1, hs2, hs3⟩ := lwN_bd hO (S.2.1.2.1 i) T (by omega)
  have hnl : nws S.1 (S.2.1.2.1 i) T ≤ 256 := by
    rw [← lw_ways hO (hW.rok hB)]
    have h1 := cnt_le (isW S.1 (S.2.1.2.1 i) T) (mxr (pq S.1) (pn S.1) (pn S.1))
    have h2 := hB.c256
    have h3 := hB.2.1
    split
    · omega
    · omega
  rw [lwN_s]
  generalize hse : lwN S.1 (S.2.1.2.1 i) T = s at hs1 hs2 hs3 ⊢
  intro A B x hx kk
  have hG := hx.1
  by_cases hp0 : 0 < nws S.1 (S.2.1.2.1 i) T
  · have hz : ¬ nI (nws S.1 (S.2.1.2.1 i) T) = 0 := nI_neq (by omega) (by decide) (show nws S.1 (S.2.1.2.1 i) T ≠ 0 by omega)
    refine z_iload (pc := 337) hG 0 rfl dL_law_337 ?_
    refine z_if_ne (pc := 339) (tgt := 345) hG dL_law_339 rfl (fun _ => ?_) (fun hbr => False.elim ((hz) hbr))
    refine z_iconst (pc := 345) (v := (0 : Int32)) hG (by decide) dL_law_345 ?_
    refine z_istore (pc := 346) (ls' := [(12, .int ((0 : Int32))), (11, .int ((nI (nws S.1 (S.2.1.2.1 i) T)))), (10, .int ((nI T))), (9, .int (nI s.2.2)), (8, .int (nI s.2.1)), (7, .int (sI s.1)), (6, .int ((nI (rmis (S.2.1.2.1 i) (pn S.1))))), (5, .ref (49 + c)), (4, .int ((nI i))), (3, .ref 48), (2, .int ((nI (pn S.1)))), (1, .ref 0), (0, .ref 1041)]) hG [0, 1, 2, 3, 4, 5, 6, 7, 8, 9, 10, 11, 12] (by decide) rfl dL_law_346 ?_
    refine z_iconst (pc := 348) (v := (0 : Int32)) hG (by decide) dL_law_348 ?_
    refine z_istore (pc := 349) (ls' := [(13, .int ((0 : Int32))), (12, .int ((0 : Int32))), (11, .int ((nI (nws S.1 (S.2.1.2.1 i) T)))), (10, .int ((nI T))), (9, .int (nI s.2.2)), (8, .int (nI s.2.1)), (7, .int (sI s.1)), (6, .int ((nI (rmis (S.2.1.2.1 i) (pn S.1))))), (5, .ref (49 + c)), (4, .int ((nI i))), (3, .ref 48), (2, .int ((nI (pn S.1)))), (1, .ref 0), (0, .ref 1041)]) hG [0, 1, 2, 3, 4, 5, 6, 7, 8, 9, 10, 11, 12, 13] (by decide) rfl dL_law_349 ?_
    refine z_wk (A' := A + 2 * pn S.1) (B' := B + 12 * pn S.1) (by omega) (by omega) (wt_all hl0 hB hW (by omega) (pn S.1) 0 (Nat.zero_add _) A B x hx ?_)
    have hT64 : T < 64 := by omega
    unfold lwS at kk
    rw [if_pos hp0] at kk
    dsimp only at kk
    by_cases h99 : s.1 = 99
    · rw [show sI s.1 = (-1 : Int32) from if_pos h99]
      have k2 := ls_tail hl0 hB hW (T := T) A B x hx (by
        have e1 : (if s.1 = 99 ∨ wSum S.1 T (pn S.1) < s.2.1 then 1 else if wSum S.1 T (pn S.1) = s.2.1 then s.2.2 + 1 else s.2.2) = 1 := if_pos (Or.inl h99)
        simp only [e1] at kk
        rw [if_pos (Or.inl h99)] at kk
        rw [show sI T = nI T from if_neg (by omega)] at kk
        exact kk)
      exact up_A hl0 hB hW (k0 := 0) (w0 := 0) (q0 := 0) hT64 A B x hx k2
    · have hk64 : s.1 < 64 := by omega
      rw [show sI s.1 = nI s.1 from if_neg h99]
      by_cases hw1 : wSum S.1 T (pn S.1) < s.2.1
      · refine up_B hl0 hB hW (q0 := 0) hT64 hk64 hs2 hw1 A B x hx (ls_tail hl0 hB hW A B x hx ?_)
        have e1 : (if s.1 = 99 ∨ wSum S.1 T (pn S.1) < s.2.1 then 1 else if wSum S.1 T (pn S.1) = s.2.1 then s.2.2 + 1 else s.2.2) = 1 := if_pos (Or.inr hw1)
        simp only [e1] at kk
        rw [if_pos (Or.inr (Or.inl hw1))] at kk
        rw [show sI T = nI T from if_neg (by omega)] at kk
        exact kk
      · by_cases hw2 : wSum S.1 T (pn S.1) = s.2.1
        · have e1 : (if s.1 = 99 ∨ wSum S.1 T (pn S.1) < s.2.1 then 1 else if wSum S.1 T (pn S.1) = s.2.1 then s.2.2 + 1 else s.2.2) = s.2.2 + 1 := by
            rw [if_neg (fun z => z.elim h99 hw1), if_pos hw2]
          simp only [e1] at kk
          by_cases hpc : pcn T < pcn s.1
          · refine up_C hl0 hB hW hT64 hk64 hs2 hw2 hpc A B x hx (ls_tail hl0 hB hW A B x hx ?_)
            rw [if_pos (Or.inr (Or.inr ⟨hw2, hpc⟩))] at kk
            rw [show sI T = nI T from if_neg (by omega)] at kk
            exact kk
          · refine up_D hl0 hB hW hT64 hk64 hs2 hw2 (by omega) A B x hx (ls_tail hl0 hB hW A B x hx ?_)
            rw [if_neg (fun z => z.elim h99 (fun y => y.elim hw1 (fun u => hpc u.2)))] at kk
            rw [show sI s.1 = nI s.1 from if_neg h99] at kk
            exact kk
        · refine up_E hl0 hB hW (q0 := 0) hT64 hk64 hs2 (by omega) A B x hx (ls_tail hl0 hB hW A B x hx ?_)
          have e1 : (if s.1 = 99 ∨ wSum S.1 T (pn S.1) < s.2.1 then 1 else if wSum S.1 T (pn S.1) = s.2.1 then s.2.2 + 1 else s.2.2) = s.2.2 := by
            rw [if_neg (fun z => z.elim h99 hw1), if_neg hw2]
          simp only [e1] at kk
          rw [if_neg (fun z => z.elim h99 (fun y => y.elim hw1 (fun u => hw2 u.1)))] at kk
          rw [show sI s.1 = nI s.1 from if_neg h99] at kk
          exact kk
  · have hz : nI (nws S.1 (S.2.1.2.1 i) T) = 0 := congrArg nI (by omega : nws S.1 (S.2.1.2.1 i) T = 0)
    unfold lwS at kk
    rw [if_neg hp0] at kk
    refine z_iload (pc := 337) hG 0 rfl dL_law_337 ?_
    refine z_if_ne (pc := 339) (tgt := 345) hG dL_law_339 rfl (fun hbr => False.elim ((fun h => h hz) hbr)) (fun _ => ?_)
    refine z_goto (pc := 342) (tgt := 472) hG dL_law_342 rfl ?_
    refine z_sub (ls' := [(10, .int (nI T)), (9, .int (nI s.2.2)), (8, .int (nI s.2.1)), (7, .int (sI s.1)), (6, .int (nI (rmis (S.2.1.2.1 i) (pn S.1)))), (5, .ref (49 + c)), (4, .int (nI i)), (3, .ref 48), (2, .int (nI (pn S.1))), (1, .ref 0), (0, .ref 1041)]) [1, 2, 3, 4, 5, 6, 7, 8, 9, 10, 11] rfl ?_
    exact z_wk (Nat.le_add_right _ _) (Nat.le_add_right _ _) (ls_tail hl0 hB hW A B x hx kk)
