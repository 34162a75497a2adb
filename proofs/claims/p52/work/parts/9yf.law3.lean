/-! ===== the law's walk: what a full row meets ===== -/
theorem ent_lt {P : zPl} (h5 : pn P ≤ 5) (X : Nat) : ent P X < 32 := Nat.lt_of_lt_of_le (bS_lt _ _) (Nat.pow_le_pow_right (n := 2) (by decide) h5)
theorem cnt_lt_of {p : Nat → Bool} {x n : Nat} (hx : x < n) (hp : p x = true) : cnt p x < cnt p n := by
  have h1 : cnt p (x + 1) = cnt p x + 1 := by
    show (if p x then cnt p x + 1 else cnt p x) = _
    rw [if_pos hp]
  have h2 : ∀ m, x + 1 ≤ m → cnt p (x + 1) ≤ cnt p m := by
    intro m
    induction m with
    | zero => intro h; omega
    | succ m ih =>
      intro h
      by_cases he : x + 1 = m + 1
      · rw [he]; exact Nat.le_refl _
      · refine Nat.le_trans (ih (by omega)) ?_
        show cnt p m ≤ (if p m then cnt p m + 1 else cnt p m)
        split
        · exact Nat.le_succ _
        · exact Nat.le_refl _
  have := h2 n hx
  omega
theorem mt_one {l : Launch} (hl0 : l.flags = flags0) {S : zSt} {σ : zS} {c i : Nat} (hB : lwB S c i) (hW : lwW S c i σ) {T k : Nat} {b : Bool} {v7 v8 v9 : Int32} (full : ∀ f, f < pn S.1 → rv (S.2.1.2.1 i) f ≠ 0) (hk : k < (cnt (hlB S.1 (S.2.1.2.1 i)) (nB S.1))) (hk9 : k < 513) : ∃ σ', lwW S c i σ' ∧ hiE σ σ' ∧ σ.2.2.2 ≤ σ'.2.2.2 ∧ ∀ (A B : Nat) x, zG x cL_law 18 RL ret ∧ zl0 x = l → zK x 70 272 [(13, .int (nI (k + 1))), (12, .int (bJ (b && (ent S.1 (bX S.1 (wtA S.1 (S.2.1.2.1 i) k).toNatClampNeg) &&& T != 0)))), (11, .int (nI (nws S.1 (S.2.1.2.1 i) T))), (10, .int (nI T)), (9, .int v9), (8, .int v8), (7, .int v7), (6, .int (nI (rmis (S.2.1.2.1 i) (pn S.1)))), (5, .ref (49 + c)), (4, .int (nI i)), (3, .ref 48), (2, .int (nI (pn S.1))), (1, .ref 0), (0, .ref 1041)] [] (zD ++ zEg c (pn S.1)) σ' A B → zK x 70 272 [(13, .int (nI k)), (12, .int (bJ b)), (11, .int (nI (nws S.1 (S.2.1.2.1 i) T))), (10, .int (nI T)), (9, .int v9), (8, .int v8), (7, .int v7), (6, .int (nI (rmis (S.2.1.2.1 i) (pn S.1)))), (5, .ref (49 + c)), (4, .int (nI i)), (3, .ref 48), (2, .int (nI (pn S.1))), (1, .ref 0), (0, .ref 1041)] [] (zD ++ zEg c (pn S.1)) σ (A + 6 + (σ'.2.2.2 / 64 - σ.2.2.2 / 64)) (B + 36 + 2 * (σ'.2.2.2 - σ.2.2.2)) := by
  have hn4 := hB.1.2.1
  obtain ⟨x0, hx1, hx2, hx3, hx0⟩ := wtA_at hk
  have hxn : (wtA S.1 (S.2.1.2.1 i) k).toNatClampNeg = x0 := by
    rw [hx0]
    have := bX_spec hx1
    exact nI_cl (by
      have h1 := bd_small (P := S.1) hW.1.1 hn4 (Nat.le_refl 33554432)
      have h2 : x0 < nB S.1 := hx1
      unfold nB at h2
      omega)
  have hxl0 : x0 < 29791 := by
    have h1 := bd_small (P := S.1) hW.1.1 hn4 (Nat.le_refl 33554432)
    have h2 : x0 < nB S.1 := hx1
    unfold nB at h2
    omega
  rw [hxn]
  obtain ⟨s1, hc1, hh1, hcap1, c1⟩ := q_within hl0 (zEg_f c (pn S.1)) hW.1 hB.2.2 (show k < 2147483648 by omega) full
  cases b with
  | false =>
    refine ⟨s1, lwW_hi hW hc1 hh1, hh1, hcap1, ?_⟩
    rintro A B x ⟨hG, hxl⟩ kk
    subst hxl
    rw [Bool.false_and] at kk
    refine z_aload_n (pc := 272) hG 12 rfl rfl dL_law_272 ?_
    refine z_iload (pc := 273) hG 9 rfl dL_law_273 ?_
    refine z_iload (pc := 275) hG 0 rfl dL_law_275 ?_
    refine z_wk (A' := (A + 4 + (s1.2.2.2 / 64 - s1.2.2.2 / 64)) + (2 + (s1.2.2.2 / 64 - σ.2.2.2 / 64))) (B' := (B + 24 + 2 * (s1.2.2.2 - s1.2.2.2)) + (12 + 2 * (s1.2.2.2 - σ.2.2.2))) (by omega) (by omega) ?_
    refine z_virtS (pc := 277) (A' := A + 4 + (s1.2.2.2 / 64 - s1.2.2.2 / 64)) (B' := B + 24 + 2 * (s1.2.2.2 - s1.2.2.2)) (st2 := [.int ((wtA S.1 (S.2.1.2.1 i) k))]) (v := some (.int ((wtA S.1 (S.2.1.2.1 i) k)))) hG [.int ((nI i)), .int ((nI k))] [] zc_X10 (zEo_0 _) (c1) zy_X10_within ⟨w260, w261⟩ w259 dL_law_277 rfl (Nat.le_of_ble_eq_true rfl) (Nat.le_refl _) rfl (zand rfl (zand rfl (zand rfl (zand rfl (zand rfl (zand rfl (zand rfl (zand rfl (zand (zog_N _ _) (zand rfl (zand (zog_48 _ _) (zand rfl (zand (zo_0 _) (zand (zoks_hi (by decide)) rfl)))))))))))))) rfl rfl (Nat.le_of_ble_eq_true rfl) rfl rfl ?_
    rw [show (wtA S.1 (S.2.1.2.1 i) k) = (nI x0) from hx0]
    refine z_if_lt (pc := 280) (tgt := 320) hG dL_law_280 rfl (fun hbr => False.elim ((fun h => nI_nn (by omega) h) hbr)) (fun _ => ?_)
    refine z_iload (pc := 283) hG 1 rfl dL_law_283 ?_
    refine z_if_eq (pc := 285) (tgt := 311) hG dL_law_285 rfl (fun _ => ?_) (fun hbr => False.elim (hbr (rfl)))
    refine z_iconst (pc := 311) (v := (0 : Int32)) hG (by decide) dL_law_311 ?_
    refine z_istore (pc := 312) (ls' := [(12, .int ((0 : Int32))), (13, .int ((nI k))), (11, .int ((nI (nws S.1 (S.2.1.2.1 i) T)))), (10, .int ((nI T))), (9, .int v9), (8, .int v8), (7, .int v7), (6, .int ((nI (rmis (S.2.1.2.1 i) (pn S.1))))), (5, .ref (49 + c)), (4, .int ((nI i))), (3, .ref 48), (2, .int ((nI (pn S.1)))), (1, .ref 0), (0, .ref 1041)]) hG [0, 1, 2, 3, 4, 5, 6, 7, 8, 9, 10, 11, 12, 13] (by decide) rfl dL_law_312 ?_
    refine z_iinc (pc := 314) (v := (nI (k + 1))) (ls' := [(13, .int ((nI (k + 1)))), (12, .int ((0 : Int32))), (11, .int ((nI (nws S.1 (S.2.1.2.1 i) T)))), (10, .int ((nI T))), (9, .int v9), (8, .int v8), (7, .int v7), (6, .int ((nI (rmis (S.2.1.2.1 i) (pn S.1))))), (5, .ref (49 + c)), (4, .int ((nI i))), (3, .ref 48), (2, .int ((nI (pn S.1)))), (1, .ref 0), (0, .ref 1041)]) hG 1 rfl [0, 1, 2, 3, 4, 5, 6, 7, 8, 9, 10, 11, 12, 13] (nI_1s) (by decide) rfl dL_law_314 ?_
    refine z_goto (pc := 317) (tgt := 272) hG dL_law_317 rfl ?_
    refine z_sub (ls' := [(13, .int (nI (k + 1))), (12, .int (bJ false)), (11, .int (nI (nws S.1 (S.2.1.2.1 i) T))), (10, .int (nI T)), (9, .int v9), (8, .int v8), (7, .int v7), (6, .int (nI (rmis (S.2.1.2.1 i) (pn S.1)))), (5, .ref (49 + c)), (4, .int (nI i)), (3, .ref 48), (2, .int (nI (pn S.1))), (1, .ref 0), (0, .ref 1041)]) [0, 1, 2, 3, 4, 5, 6, 7, 8, 9, 10, 11, 12, 13] rfl ?_
    exact z_wk (by omega) (by omega) kk
  | true =>
    obtain ⟨s2, hc2, hh2, hcap2, c2⟩ := q_within hl0 (zEg_f c (pn S.1)) hc1 hB.2.2 (show k < 2147483648 by omega) full
    obtain ⟨s3, hc3, hh3, hcap3, c3⟩ := q_box hl0 (zEg_f c (pn S.1)) hc2 hx1
    refine ⟨s3, lwW_hi hW hc3 ((hh1.tr hh2).tr hh3), (hh1.tr hh2).tr hh3, by omega, ?_⟩
    rintro A B x ⟨hG, hxl⟩ kk
    subst hxl
    rw [Bool.true_and] at kk
    have hel := ent_lt (P := S.1) (by omega) (bX S.1 x0)
    have hal : ent S.1 (bX S.1 x0) &&& T < 32 := Nat.lt_of_le_of_lt Nat.and_le_left hel
    refine z_aload_n (pc := 272) hG 12 rfl rfl dL_law_272 ?_
    refine z_iload (pc := 273) hG 9 rfl dL_law_273 ?_
    refine z_iload (pc := 275) hG 0 rfl dL_law_275 ?_
    refine z_wk (A' := (A + 4 + (s3.2.2.2 / 64 - s1.2.2.2 / 64)) + (2 + (s1.2.2.2 / 64 - σ.2.2.2 / 64))) (B' := (B + 24 + 2 * (s3.2.2.2 - s1.2.2.2)) + (12 + 2 * (s1.2.2.2 - σ.2.2.2))) (by omega) (by omega) ?_
    refine z_virtS (pc := 277) (A' := A + 4 + (s3.2.2.2 / 64 - s1.2.2.2 / 64)) (B' := B + 24 + 2 * (s3.2.2.2 - s1.2.2.2)) (st2 := [.int ((wtA S.1 (S.2.1.2.1 i) k))]) (v := some (.int ((wtA S.1 (S.2.1.2.1 i) k)))) hG [.int ((nI i)), .int ((nI k))] [] zc_X10 (zEo_0 _) (c1) zy_X10_within ⟨w260, w261⟩ w259 dL_law_277 rfl (Nat.le_of_ble_eq_true rfl) (Nat.le_refl _) rfl (zand rfl (zand rfl (zand rfl (zand rfl (zand rfl (zand rfl (zand rfl (zand rfl (zand (zog_N _ _) (zand rfl (zand (zog_48 _ _) (zand rfl (zand (zo_0 _) (zand (zoks_hi (by decide)) rfl)))))))))))))) rfl rfl (Nat.le_of_ble_eq_true rfl) rfl rfl ?_
    rw [show (wtA S.1 (S.2.1.2.1 i) k) = (nI x0) from hx0]
    refine z_if_lt (pc := 280) (tgt := 320) hG dL_law_280 rfl (fun hbr => False.elim ((fun h => nI_nn (by omega) h) hbr)) (fun _ => ?_)
    refine z_iload (pc := 283) hG 1 rfl dL_law_283 ?_
    refine z_if_eq (pc := 285) (tgt := 311) hG dL_law_285 rfl (fun hbr => False.elim ((fun h => absurd h (by decide)) hbr)) (fun _ => ?_)
    refine z_aload_n (pc := 288) hG 12 rfl rfl dL_law_288 ?_
    refine z_aload_n (pc := 289) hG 12 rfl rfl dL_law_289 ?_
    refine z_iload (pc := 290) hG 9 rfl dL_law_290 ?_
    refine z_iload (pc := 292) hG 0 rfl dL_law_292 ?_
    refine z_wk (A' := (A + 2 + (s3.2.2.2 / 64 - s2.2.2.2 / 64)) + (2 + (s2.2.2.2 / 64 - s1.2.2.2 / 64))) (B' := (B + 12 + 2 * (s3.2.2.2 - s2.2.2.2)) + (12 + 2 * (s2.2.2.2 - s1.2.2.2))) (by omega) (by omega) ?_
    refine z_virtS (pc := 294) (A' := A + 2 + (s3.2.2.2 / 64 - s2.2.2.2 / 64)) (B' := B + 12 + 2 * (s3.2.2.2 - s2.2.2.2)) (st2 := [.int ((wtA S.1 (S.2.1.2.1 i) k)), .ref 0]) (v := some (.int ((wtA S.1 (S.2.1.2.1 i) k)))) hG [.int ((nI i)), .int ((nI k))] [.ref 0] zc_X10 (zEo_0 _) (c2) zy_X10_within ⟨w260, w261⟩ w259 dL_law_294 rfl (Nat.le_of_ble_eq_true rfl) (Nat.le_refl _) (zand (zo_0 _) rfl) (zand rfl (zand rfl (zand rfl (zand rfl (zand rfl (zand rfl (zand rfl (zand rfl (zand (zog_N _ _) (zand rfl (zand (zog_48 _ _) (zand rfl (zand (zo_0 _) (zand (zoks_hi (by decide)) rfl)))))))))))))) rfl rfl (Nat.le_of_ble_eq_true rfl) rfl rfl ?_
    rw [show (wtA S.1 (S.2.1.2.1 i) k) = (nI x0) from hx0]
    refine z_iconst (pc := 297) (v := (-1 : Int32)) hG (by decide) dL_law_297 ?_
    refine z_wk (A' := A + (2 + (s3.2.2.2 / 64 - s2.2.2.2 / 64))) (B' := B + (12 + 2 * (s3.2.2.2 - s2.2.2.2))) (by omega) (by omega) ?_
    refine z_virtS (pc := 298) (A' := A) (B' := B) (st2 := [.int ((nI (ent S.1 (bX S.1 x0))))]) (v := some (.int ((nI (ent S.1 (bX S.1 x0)))))) hG [.int ((nI x0)), .int ((-1 : Int32))] [] zc_X10 (zEo_0 _) (c3) zy_X10_box ⟨w123, w124⟩ w122 dL_law_298 rfl (Nat.le_of_ble_eq_true rfl) (Nat.le_refl _) rfl (zand rfl (zand rfl (zand rfl (zand rfl (zand rfl (zand rfl (zand rfl (zand rfl (zand (zog_N _ _) (zand rfl (zand (zog_48 _ _) (zand rfl (zand (zo_0 _) (zand (zoks_hi (by decide)) rfl)))))))))))))) rfl rfl (Nat.le_of_ble_eq_true rfl) rfl rfl ?_
    refine z_iload (pc := 301) hG 3 rfl dL_law_301 ?_
    refine z_iand (pc := 303) hG dL_law_303 ?_
    rw [show ((nI (ent S.1 (bX S.1 x0))) &&& (nI T)) = (nI (ent S.1 (bX S.1 x0) &&& T)) from nI_and _ _]
    by_cases hz0 : ent S.1 (bX S.1 x0) &&& T = 0
    · have hz : nI (ent S.1 (bX S.1 x0) &&& T) = 0 := congrArg nI hz0
      rw [show (ent S.1 (bX S.1 x0) &&& T != 0) = false from by rw [hz0]; rfl] at kk
      refine z_if_eq (pc := 304) (tgt := 311) hG dL_law_304 rfl (fun _ => ?_) (fun hbr => False.elim (hbr (hz)))
      refine z_iconst (pc := 311) (v := (0 : Int32)) hG (by decide) dL_law_311 ?_
      refine z_istore (pc := 312) (ls' := [(12, .int ((0 : Int32))), (13, .int ((nI k))), (11, .int ((nI (nws S.1 (S.2.1.2.1 i) T)))), (10, .int ((nI T))), (9, .int v9), (8, .int v8), (7, .int v7), (6, .int ((nI (rmis (S.2.1.2.1 i) (pn S.1))))), (5, .ref (49 + c)), (4, .int ((nI i))), (3, .ref 48), (2, .int ((nI (pn S.1)))), (1, .ref 0), (0, .ref 1041)]) hG [0, 1, 2, 3, 4, 5, 6, 7, 8, 9, 10, 11, 12, 13] (by decide) rfl dL_law_312 ?_
      refine z_iinc (pc := 314) (v := (nI (k + 1))) (ls' := [(13, .int ((nI (k + 1)))), (12, .int ((0 : Int32))), (11, .int ((nI (nws S.1 (S.2.1.2.1 i) T)))), (10, .int ((nI T))), (9, .int v9), (8, .int v8), (7, .int v7), (6, .int ((nI (rmis (S.2.1.2.1 i) (pn S.1))))), (5, .ref (49 + c)), (4, .int ((nI i))), (3, .ref 48), (2, .int ((nI (pn S.1)))), (1, .ref 0), (0, .ref 1041)]) hG 1 rfl [0, 1, 2, 3, 4, 5, 6, 7, 8, 9, 10, 11, 12, 13] (nI_1s) (by decide) rfl dL_law_314 ?_
      refine z_goto (pc := 317) (tgt := 272) hG dL_law_317 rfl ?_
      refine z_sub (ls' := [(13, .int (nI (k + 1))), (12, .int (bJ false)), (11, .int (nI (nws S.1 (S.2.1.2.1 i) T))), (10, .int (nI T)), (9, .int v9), (8, .int v8), (7, .int v7), (6, .int (nI (rmis (S.2.1.2.1 i) (pn S.1)))), (5, .ref (49 + c)), (4, .int (nI i)), (3, .ref 48), (2, .int (nI (pn S.1))), (1, .ref 0), (0, .ref 1041)]) [0, 1, 2, 3, 4, 5, 6, 7, 8, 9, 10, 11, 12, 13] rfl ?_
      exact kk
    · have hz : ¬ nI (ent S.1 (bX S.1 x0) &&& T) = 0 := nI_neq (by omega) (by decide) hz0
      rw [show (ent S.1 (bX S.1 x0) &&& T != 0) = true from bne_iff_ne.mpr hz0] at kk
      refine z_if_eq (pc := 304) (tgt := 311) hG dL_law_304 rfl (fun hbr => False.elim ((fun h => hz h) hbr)) (fun _ => ?_)
      refine z_iconst (pc := 307) (v := (1 : Int32)) hG (by decide) dL_law_307 ?_
      refine z_goto (pc := 308) (tgt := 312) hG dL_law_308 rfl ?_
      refine z_istore (pc := 312) (ls' := [(12, .int ((1 : Int32))), (13, .int ((nI k))), (11, .int ((nI (nws S.1 (S.2.1.2.1 i) T)))), (10, .int ((nI T))), (9, .int v9), (8, .int v8), (7, .int v7), (6, .int ((nI (rmis (S.2.1.2.1 i) (pn S.1))))), (5, .ref (49 + c)), (4, .int ((nI i))), (3, .ref 48), (2, .int ((nI (pn S.1)))), (1, .ref 0), (0, .ref 1041)]) hG [0, 1, 2, 3, 4, 5, 6, 7, 8, 9, 10, 11, 12, 13] (by decide) rfl dL_law_312 ?_
      refine z_iinc (pc := 314) (v := (nI (k + 1))) (ls' := [(13, .int ((nI (k + 1)))), (12, .int ((1 : Int32))), (11, .int ((nI (nws S.1 (S.2.1.2.1 i) T)))), (10, .int ((nI T))), (9, .int v9), (8, .int v8), (7, .int v7), (6, .int ((nI (rmis (S.2.1.2.1 i) (pn S.1))))), (5, .ref (49 + c)), (4, .int ((nI i))), (3, .ref 48), (2, .int ((nI (pn S.1)))), (1, .ref 0), (0, .ref 1041)]) hG 1 rfl [0, 1, 2, 3, 4, 5, 6, 7, 8, 9, 10, 11, 12, 13] (nI_1s) (by decide) rfl dL_law_314 ?_
      refine z_goto (pc := 317) (tgt := 272) hG dL_law_317 rfl ?_
      refine z_sub (ls' := [(13, .int (nI (k + 1))), (12, .int (bJ true)), (11, .int (nI (nws S.1 (S.2.1.2.1 i) T))), (10, .int (nI T)), (9, .int v9), (8, .int v8), (7, .int v7), (6, .int (nI (rmis (S.2.1.2.1 i) (pn S.1)))), (5, .ref (49 + c)), (4, .int (nI i)), (3, .ref 48), (2, .int (nI (pn S.1))), (1, .ref 0), (0, .ref 1041)]) [0, 1, 2, 3, 4, 5, 6, 7, 8, 9, 10, 11, 12, 13] rfl ?_
      exact kk
theorem mt_all {l : Launch} (hl0 : l.flags = flags0) {S : zSt} {c i : Nat} (hB : lwB S c i) {T : Nat} {v7 v8 v9 : Int32} (full : ∀ f, f < pn S.1 → rv (S.2.1.2.1 i) f ≠ 0) (hH : (cnt (hlB S.1 (S.2.1.2.1 i)) (nB S.1)) ≤ 512) : ∀ (q k : Nat) (b : Bool) (σ : zS), k + q = (cnt (hlB S.1 (S.2.1.2.1 i)) (nB S.1)) → lwW S c i σ → b = alB (fun t => ent S.1 (bX S.1 (wtA S.1 (S.2.1.2.1 i) t).toNatClampNeg) &&& T != 0) k → ∃ σ', lwW S c i σ' ∧ hiE σ σ' ∧ σ.2.2.2 ≤ σ'.2.2.2 ∧ ∀ (A B : Nat) x, zG x cL_law 18 RL ret ∧ zl0 x = l → zK x 70 320 [(13, .int (nI (cnt (hlB S.1 (S.2.1.2.1 i)) (nB S.1)))), (12, .int (bJ (alB (fun t => ent S.1 (bX S.1 (wtA S.1 (S.2.1.2.1 i) t).toNatClampNeg) &&& T != 0) (cnt (hlB S.1 (S.2.1.2.1 i)) (nB S.1))))), (11, .int (nI (nws S.1 (S.2.1.2.1 i) T))), (10, .int (nI T)), (9, .int v9), (8, .int v8), (7, .int v7), (6, .int (nI (rmis (S.2.1.2.1 i) (pn S.1)))), (5, .ref (49 + c)), (4, .int (nI i)), (3, .ref 48), (2, .int (nI (pn S.1))), (1, .ref 0), (0, .ref 1041)] [] (zD ++ zEg c (pn S.1)) σ' A B → zK x 70 272 [(13, .int (nI k)), (12, .int (bJ b)), (11, .int (nI (nws S.1 (S.2.1.2.1 i) T))), (10, .int (nI T)), (9, .int v9), (8, .int v8), (7, .int v7), (6, .int (nI (rmis (S.2.1.2.1 i) (pn S.1)))), (5, .ref (49 + c)), (4, .int (nI i)), (3, .ref 48), (2, .int (nI (pn S.1))), (1, .ref 0), (0, .ref 1041)] [] (zD ++ zEg c (pn S.1)) σ (A + 2 + 6 * q + (σ'.2.2.2 / 64 - σ.2.2.2 / 64)) (B + 12 + 36 * q + 2 * (σ'.2.2.2 - σ.2.2.2))
  | 0, k, b, σ, h, hW, hb => by
    have hn4 := hB.1.2.1
    have hk : k = (cnt (hlB S.1 (S.2.1.2.1 i)) (nB S.1)) := h
    rw [← hk, ← hb]
    obtain ⟨s1, hc1, hh1, hcap1, c1⟩ := q_within hl0 (zEg_f c (pn S.1)) hW.1 hB.2.2 (show k < 2147483648 by omega) full
    have hend : wtA S.1 (S.2.1.2.1 i) k = -1 := wtA_end (Nat.le_of_eq hk.symm)
    refine ⟨s1, lwW_hi hW hc1 hh1, hh1, hcap1, ?_⟩
    rintro A B x ⟨hG, hxl⟩ kk
    subst hxl
    refine z_wk (A' := A + 2 + (s1.2.2.2 / 64 - σ.2.2.2 / 64)) (B' := B + 12 + 2 * (s1.2.2.2 - σ.2.2.2)) (by omega) (by omega) ?_
    refine z_aload_n (pc := 272) hG 12 rfl rfl dL_law_272 ?_
    refine z_iload (pc := 273) hG 9 rfl dL_law_273 ?_
    refine z_iload (pc := 275) hG 0 rfl dL_law_275 ?_
    refine z_wk (A' := (A) + (2 + (s1.2.2.2 / 64 - σ.2.2.2 / 64))) (B' := (B) + (12 + 2 * (s1.2.2.2 - σ.2.2.2))) (by omega) (by omega) ?_
    refine z_virtS (pc := 277) (A' := A) (B' := B) (st2 := [.int ((wtA S.1 (S.2.1.2.1 i) k))]) (v := some (.int ((wtA S.1 (S.2.1.2.1 i) k)))) hG [.int ((nI i)), .int ((nI k))] [] zc_X10 (zEo_0 _) (c1) zy_X10_within ⟨w260, w261⟩ w259 dL_law_277 rfl (Nat.le_of_ble_eq_true rfl) (Nat.le_refl _) rfl (zand rfl (zand rfl (zand rfl (zand rfl (zand rfl (zand rfl (zand rfl (zand rfl (zand (zog_N _ _) (zand rfl (zand (zog_48 _ _) (zand rfl (zand (zo_0 _) (zand (zoks_hi (by decide)) rfl)))))))))))))) rfl rfl (Nat.le_of_ble_eq_true rfl) rfl rfl ?_
    rw [show (wtA S.1 (S.2.1.2.1 i) k) = (-1 : Int32) from hend]
    refine z_if_lt (pc := 280) (tgt := 320) hG dL_law_280 rfl (fun _ => ?_) (fun hbr => False.elim (hbr (by decide)))
    exact kk
  | q + 1, k, b, σ, h, hW, hb => by
    obtain ⟨s1, hW1, hh1, hcap1, k1⟩ := mt_one hl0 hB hW (T := T) (b := b) (v7 := v7) (v8 := v8) (v9 := v9) full (show k < (cnt (hlB S.1 (S.2.1.2.1 i)) (nB S.1)) by omega) (by omega)
    obtain ⟨s2, hW2, hh2, hcap2, k2⟩ := mt_all hl0 hB full hH q (k + 1) _ s1 (by omega) hW1 (by rw [alB_s, ← hb])
    refine ⟨s2, hW2, hh1.tr hh2, by omega, fun A B x hx kk => ?_⟩
    exact z_wk (A' := (A + 2 + 6 * q + (s2.2.2.2 / 64 - s1.2.2.2 / 64)) + 6 + (s1.2.2.2 / 64 - σ.2.2.2 / 64)) (B' := (B + 12 + 36 * q + 2 * (s2.2.2.2 - s1.2.2.2)) + 36 + 2 * (s1.2.2.2 - σ.2.2.2)) (by omega) (by omega) (k1 _ _ x hx (k2 A B x hx kk))
theorem lw_meet {l : Launch} (hl0 : l.flags = flags0) {S : zSt} {σ : zS} {c i : Nat} (hB : lwB S c i) (hW : lwW S c i σ) {T : Nat} {v7 v8 v9 : Int32} : ∃ σ', lwW S c i σ' ∧ hiE σ σ' ∧ σ.2.2.2 ≤ σ'.2.2.2 ∧ ∀ (A B : Nat) x, zG x cL_law 18 RL ret ∧ zl0 x = l → zK x 70 337 [(11, .int (nI (nws S.1 (S.2.1.2.1 i) T))), (10, .int (nI T)), (9, .int v9), (8, .int v8), (7, .int v7), (6, .int (nI (rmis (S.2.1.2.1 i) (pn S.1)))), (5, .ref (49 + c)), (4, .int (nI i)), (3, .ref 48), (2, .int (nI (pn S.1))), (1, .ref 0), (0, .ref 1041)] [] (zD ++ zEg c (pn S.1)) σ' A B → zK x 70 261 [(11, .int (nI (nws S.1 (S.2.1.2.1 i) T))), (10, .int (nI T)), (9, .int v9), (8, .int v8), (7, .int v7), (6, .int (nI (rmis (S.2.1.2.1 i) (pn S.1)))), (5, .ref (49 + c)), (4, .int (nI i)), (3, .ref 48), (2, .int (nI (pn S.1))), (1, .ref 0), (0, .ref 1041)] [] (zD ++ zEg c (pn S.1)) σ (A + 3074 + (σ'.2.2.2 / 64 - σ.2.2.2 / 64)) (B + 18444 + 2 * (σ'.2.2.2 - σ.2.2.2)) := by
  have hn4 := hB.1.2.1
  have hO := hW.1.1
  have hrk := hW.rok hB
  have hml : rmis (S.2.1.2.1 i) (pn S.1) < 32 := Nat.lt_of_lt_of_le (bS_lt _ _) (Nat.pow_le_pow_right (n := 2) (by decide) (show pn S.1 ≤ 5 by omega))
  by_cases hm0 : rmis (S.2.1.2.1 i) (pn S.1) = 0
  · have full := (rmis_0 (S.2.1.2.1 i) (pn S.1)).mp hm0
    have hH := hl_512 hO hn4 (fun f hf => (hB.1.2.2.1 f hf).2) hrk
    obtain ⟨s1, hW1, hh1, hcap1, k1⟩ := mt_all hl0 hB (T := T) (v7 := v7) (v8 := v8) (v9 := v9) full hH (cnt (hlB S.1 (S.2.1.2.1 i)) (nB S.1)) 0 true σ (Nat.zero_add _) hW rfl
    have hall : alB (fun t => ent S.1 (bX S.1 (wtA S.1 (S.2.1.2.1 i) t).toNatClampNeg) &&& T != 0) (cnt (hlB S.1 (S.2.1.2.1 i)) (nB S.1)) = true ↔ cmd S.1 (S.2.1.2.1 i) T = true := by
      rw [lw_meets hO hB.p0 hrk full, alB_iff]
      constructor
      · intro h x hx hxh
        have hlt : cnt (hlB S.1 (S.2.1.2.1 i)) x < (cnt (hlB S.1 (S.2.1.2.1 i)) (nB S.1)) := cnt_lt_of hx hxh
        obtain ⟨y, hy1, hy2, hy3, hy4⟩ := wtA_at hlt
        have hxy : y = x := cnt_inj hy2 hxh hy3
        have h1 := h _ hlt
        rw [hy4, nI_cl (by
          have h1 := bd_small (P := S.1) hO hn4 (Nat.le_refl 33554432)
          have h2 : y < nB S.1 := hy1
          unfold nB at h2
          omega), hxy] at h1
        exact bne_iff_ne.mp h1
      · intro h t ht
        obtain ⟨y, hy1, hy2, hy3, hy4⟩ := wtA_at ht
        rw [hy4, nI_cl (by
          have h1 := bd_small (P := S.1) hO hn4 (Nat.le_refl 33554432)
          have h2 : y < nB S.1 := hy1
          unfold nB at h2
          omega)]
        exact bne_iff_ne.mpr (h y hy1 hy2)
    have hcmd := nws_cmd hO (T := T) hrk
    have hnl : nws S.1 (S.2.1.2.1 i) T ≤ 256 := by
      rw [← lw_ways hO hrk]
      have h1 := cnt_le (isW S.1 (S.2.1.2.1 i) T) (mxr (pq S.1) (pn S.1) (pn S.1))
      have h2 := hB.c256
      have h3 := hB.2.1
      split
      · omega
      · omega
    refine ⟨s1, hW1, hh1, hcap1, ?_⟩
    rintro A B x ⟨hG, hxl⟩ kk
    subst hxl
    have hm : nI (rmis (S.2.1.2.1 i) (pn S.1)) = 0 := congrArg nI hm0
    refine z_iload (pc := 261) hG 5 rfl dL_law_261 ?_
    refine z_if_ne (pc := 263) (tgt := 337) hG dL_law_263 rfl (fun hbr => False.elim ((fun h => h hm) hbr)) (fun _ => ?_)
    refine z_iconst (pc := 266) (v := (1 : Int32)) hG (by decide) dL_law_266 ?_
    refine z_istore (pc := 267) (ls' := [(12, .int ((1 : Int32))), (11, .int ((nI (nws S.1 (S.2.1.2.1 i) T)))), (10, .int ((nI T))), (9, .int v9), (8, .int v8), (7, .int v7), (6, .int ((nI (rmis (S.2.1.2.1 i) (pn S.1))))), (5, .ref (49 + c)), (4, .int ((nI i))), (3, .ref 48), (2, .int ((nI (pn S.1)))), (1, .ref 0), (0, .ref 1041)]) hG [0, 1, 2, 3, 4, 5, 6, 7, 8, 9, 10, 11, 12] (by decide) rfl dL_law_267 ?_
    refine z_iconst (pc := 269) (v := (0 : Int32)) hG (by decide) dL_law_269 ?_
    refine z_istore (pc := 270) (ls' := [(13, .int ((0 : Int32))), (12, .int ((1 : Int32))), (11, .int ((nI (nws S.1 (S.2.1.2.1 i) T)))), (10, .int ((nI T))), (9, .int v9), (8, .int v8), (7, .int v7), (6, .int ((nI (rmis (S.2.1.2.1 i) (pn S.1))))), (5, .ref (49 + c)), (4, .int ((nI i))), (3, .ref 48), (2, .int ((nI (pn S.1)))), (1, .ref 0), (0, .ref 1041)]) hG [0, 1, 2, 3, 4, 5, 6, 7, 8, 9, 10, 11, 12, 13] (by decide) rfl dL_law_270 ?_
    refine z_wk (A' := A + 2 + 6 * (cnt (hlB S.1 (S.2.1.2.1 i)) (nB S.1)) + (s1.2.2.2 / 64 - σ.2.2.2 / 64)) (B' := B + 12 + 36 * (cnt (hlB S.1 (S.2.1.2.1 i)) (nB S.1)) + 2 * (s1.2.2.2 - σ.2.2.2)) (by omega) (by omega) ?_
    refine k1 A B _ ⟨hG, rfl⟩ ?_
    by_cases hp0 : 0 < nws S.1 (S.2.1.2.1 i) T
    · have hmt : alB (fun t => ent S.1 (bX S.1 (wtA S.1 (S.2.1.2.1 i) t).toNatClampNeg) &&& T != 0) (cnt (hlB S.1 (S.2.1.2.1 i)) (nB S.1)) = true := hall.mpr (by rw [hcmd]; exact decide_eq_true hp0)
      rw [show alB (fun t => ent S.1 (bX S.1 (wtA S.1 (S.2.1.2.1 i) t).toNatClampNeg) &&& T != 0) (cnt (hlB S.1 (S.2.1.2.1 i)) (nB S.1)) = true from hmt]
      refine z_iload (pc := 320) hG 1 rfl dL_law_320 ?_
      refine z_iload (pc := 322) hG 2 rfl dL_law_322 ?_
      refine z_if_le (pc := 324) (tgt := 331) hG dL_law_324 rfl (fun hbr => False.elim ((fun h => nI_nle hp0 (by omega) h) hbr)) (fun _ => ?_)
      refine z_iconst (pc := 327) (v := (1 : Int32)) hG (by decide) dL_law_327 ?_
      refine z_goto (pc := 328) (tgt := 332) hG dL_law_328 rfl ?_
      refine z_icmp_eq (pc := 332) (tgt := 337) hG dL_law_332 rfl (fun _ => ?_) (fun hbr => False.elim (hbr (rfl)))
      refine z_sub (ls' := [(11, .int (nI (nws S.1 (S.2.1.2.1 i) T))), (10, .int (nI T)), (9, .int v9), (8, .int v8), (7, .int v7), (6, .int (nI (rmis (S.2.1.2.1 i) (pn S.1)))), (5, .ref (49 + c)), (4, .int (nI i)), (3, .ref 48), (2, .int (nI (pn S.1))), (1, .ref 0), (0, .ref 1041)]) [2, 3, 4, 5, 6, 7, 8, 9, 10, 11, 12, 13] rfl ?_
      exact kk
    · have hmt : alB (fun t => ent S.1 (bX S.1 (wtA S.1 (S.2.1.2.1 i) t).toNatClampNeg) &&& T != 0) (cnt (hlB S.1 (S.2.1.2.1 i)) (nB S.1)) = false := by
        cases hz : alB (fun t => ent S.1 (bX S.1 (wtA S.1 (S.2.1.2.1 i) t).toNatClampNeg) &&& T != 0) (cnt (hlB S.1 (S.2.1.2.1 i)) (nB S.1))
        · rfl
        · have h9 := hall.mp hz
          rw [hcmd, decide_eq_true_eq] at h9
          exact absurd h9 hp0
      have hp0 : nws S.1 (S.2.1.2.1 i) T = 0 := by omega
      rw [show alB (fun t => ent S.1 (bX S.1 (wtA S.1 (S.2.1.2.1 i) t).toNatClampNeg) &&& T != 0) (cnt (hlB S.1 (S.2.1.2.1 i)) (nB S.1)) = false from hmt]
      refine z_iload (pc := 320) hG 1 rfl dL_law_320 ?_
      refine z_iload (pc := 322) hG 2 rfl dL_law_322 ?_
      refine z_if_le (pc := 324) (tgt := 331) hG dL_law_324 rfl (fun _ => ?_) (fun hbr => False.elim (hbr (by rw [hp0]; decide)))
      refine z_iconst (pc := 331) (v := (0 : Int32)) hG (by decide) dL_law_331 ?_
      refine z_icmp_eq (pc := 332) (tgt := 337) hG dL_law_332 rfl (fun _ => ?_) (fun hbr => False.elim (hbr (rfl)))
      refine z_sub (ls' := [(11, .int (nI (nws S.1 (S.2.1.2.1 i) T))), (10, .int (nI T)), (9, .int v9), (8, .int v8), (7, .int v7), (6, .int (nI (rmis (S.2.1.2.1 i) (pn S.1)))), (5, .ref (49 + c)), (4, .int (nI i)), (3, .ref 48), (2, .int (nI (pn S.1))), (1, .ref 0), (0, .ref 1041)]) [2, 3, 4, 5, 6, 7, 8, 9, 10, 11, 12, 13] rfl ?_
      exact kk
  · refine ⟨σ, hW, hiE.rf, Nat.le_refl _, ?_⟩
    rintro A B x ⟨hG, hxl⟩ kk
    subst hxl
    have hm : ¬ nI (rmis (S.2.1.2.1 i) (pn S.1)) = 0 := nI_neq (by omega) (by decide) hm0
    refine z_wk (A' := A) (B' := B) (by omega) (by omega) ?_
    refine z_iload (pc := 261) hG 5 rfl dL_law_261 ?_
    refine z_if_ne (pc := 263) (tgt := 337) hG dL_law_263 rfl (fun _ => ?_) (fun hbr => False.elim ((hm) hbr))
    exact kk
