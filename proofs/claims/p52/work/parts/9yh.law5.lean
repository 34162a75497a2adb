/-! ===== the law's walk: all sets; the least ones ===== -/
theorem st_one {l : Launch} (hl0 : l.flags = flags0) {S : zSt} {σ : zS} {c i : Nat} (hB : lwB S c i) (hW : lwW S c i σ) {T : Nat} (hT : T < 2 ^ pn S.1) : ∃ σ', lwW S c i σ' ∧ hiE σ σ' ∧ σ.2.2.2 ≤ σ'.2.2.2 ∧ ∀ (A B : Nat) x, zG x cL_law 18 RL ret ∧ zl0 x = l → zK x 70 88 [(10, .int (nI (T + 1))), (9, .int (nI (lwN S.1 (S.2.1.2.1 i) (T + 1)).2.2)), (8, .int (nI (lwN S.1 (S.2.1.2.1 i) (T + 1)).2.1)), (7, .int (sI (lwN S.1 (S.2.1.2.1 i) (T + 1)).1)), (6, .int (nI (rmis (S.2.1.2.1 i) (pn S.1)))), (5, .ref (49 + c)), (4, .int (nI i)), (3, .ref 48), (2, .int (nI (pn S.1))), (1, .ref 0), (0, .ref 1041)] [] (zD ++ zEg c (pn S.1)) σ' A B → zK x 70 88 [(10, .int (nI T)), (9, .int (nI (lwN S.1 (S.2.1.2.1 i) T).2.2)), (8, .int (nI (lwN S.1 (S.2.1.2.1 i) T).2.1)), (7, .int (sI (lwN S.1 (S.2.1.2.1 i) T).1)), (6, .int (nI (rmis (S.2.1.2.1 i) (pn S.1)))), (5, .ref (49 + c)), (4, .int (nI i)), (3, .ref 48), (2, .int (nI (pn S.1))), (1, .ref 0), (0, .ref 1041)] [] (zD ++ zEg c (pn S.1)) σ (A + 3342 + (σ'.2.2.2 / 64 - σ.2.2.2 / 64)) (B + 20052 + 2 * (σ'.2.2.2 - σ.2.2.2)) := by
  have hn4 := hB.1.2.1
  have h16 : 2 ^ pn S.1 ≤ 2 ^ 4 := Nat.pow_le_pow_right (by decide) hn4
  have h16' : 2 ^ 4 = 16 := by decide
  have hc256 := hB.c256
  obtain ⟨s1, hW1, hh1, hcap1, k1⟩ := lw_wm hl0 hB hW (v7 := (sI (lwN S.1 (S.2.1.2.1 i) T).1)) (v8 := (nI (lwN S.1 (S.2.1.2.1 i) T).2.1)) (v9 := (nI (lwN S.1 (S.2.1.2.1 i) T).2.2)) hT
  obtain ⟨s2, hW2, hh2, hcap2, k2⟩ := lw_meet hl0 hB hW1 (T := T) (v7 := (sI (lwN S.1 (S.2.1.2.1 i) T).1)) (v8 := (nI (lwN S.1 (S.2.1.2.1 i) T).2.1)) (v9 := (nI (lwN S.1 (S.2.1.2.1 i) T).2.2))
  refine ⟨s2, hW2, hh1.tr hh2, by omega, ?_⟩
  rintro A B x ⟨hG, hxl⟩ kk
  subst hxl
  have k3 := ls_upd hl0 hB hW2 (show T < 16 by omega) A B _ ⟨hG, rfl⟩ kk
  have k4 := k1 _ _ _ ⟨hG, rfl⟩ (k2 _ _ _ ⟨hG, rfl⟩ k3)
  refine z_wk (A' := A + 8 + 3074 + (s2.2.2.2 / 64 - s1.2.2.2 / 64) + 4 + c) (B' := B + 48 + 18444 + 2 * (s2.2.2.2 - s1.2.2.2) + 24 + 6 * c) (by omega) (by omega) ?_
  have k5 := fo_all hl0 hB hW (T := T) (v7 := (sI (lwN S.1 (S.2.1.2.1 i) T).1)) (v8 := (nI (lwN S.1 (S.2.1.2.1 i) T).2.1)) (v9 := (nI (lwN S.1 (S.2.1.2.1 i) T).2.2)) (by omega) c 0 (Nat.zero_add _) _ _ _ ⟨hG, rfl⟩ k4
  refine z_iload (pc := 88) hG 0 rfl dL_law_88 ?_
  refine z_iconst (pc := 90) (v := (1 : Int32)) hG (by decide) dL_law_90 ?_
  refine z_iload_n (pc := 91) hG 8 rfl rfl dL_law_91 ?_
  refine z_ishl (pc := 92) hG dL_law_92 ?_
  rw [show ((1 : Int32) <<< ((nI (pn S.1)) &&& 31)) = (nI (2 ^ pn S.1)) from nI_shl (by omega)]
  refine z_icmp_ge (pc := 93) (tgt := 478) hG dL_law_93 rfl (fun hbr => False.elim ((fun h => nI_nle2 hT (by omega) h) hbr)) (fun _ => ?_)
  refine z_iconst (pc := 96) (v := (0 : Int32)) hG (by decide) dL_law_96 ?_
  refine z_istore (pc := 97) (ls' := [(11, .int ((0 : Int32))), (10, .int ((nI T))), (9, .int ((nI (lwN S.1 (S.2.1.2.1 i) T).2.2))), (8, .int ((nI (lwN S.1 (S.2.1.2.1 i) T).2.1))), (7, .int ((sI (lwN S.1 (S.2.1.2.1 i) T).1))), (6, .int ((nI (rmis (S.2.1.2.1 i) (pn S.1))))), (5, .ref (49 + c)), (4, .int ((nI i))), (3, .ref 48), (2, .int ((nI (pn S.1)))), (1, .ref 0), (0, .ref 1041)]) hG [0, 1, 2, 3, 4, 5, 6, 7, 8, 9, 10, 11] (by decide) rfl dL_law_97 ?_
  refine z_aload_n (pc := 99) hG 8 rfl rfl dL_law_99 ?_
  refine z_astore (pc := 100) (ls' := [(12, .ref 48), (11, .int ((0 : Int32))), (10, .int ((nI T))), (9, .int ((nI (lwN S.1 (S.2.1.2.1 i) T).2.2))), (8, .int ((nI (lwN S.1 (S.2.1.2.1 i) T).2.1))), (7, .int ((sI (lwN S.1 (S.2.1.2.1 i) T).1))), (6, .int ((nI (rmis (S.2.1.2.1 i) (pn S.1))))), (5, .ref (49 + c)), (4, .int ((nI i))), (3, .ref 48), (2, .int ((nI (pn S.1)))), (1, .ref 0), (0, .ref 1041)]) hG [0, 1, 2, 3, 4, 5, 6, 7, 8, 9, 10, 11, 12] (by decide) rfl dL_law_100 ?_
  refine z_aload (pc := 102) hG 0 rfl dL_law_102 ?_
  refine z_alenQ (pc := 104) hG (zEg_48 _ _) dL_law_104 ?_
  refine z_istore (pc := 105) (ls' := [(13, .int ((nI c))), (12, .ref 48), (11, .int ((0 : Int32))), (10, .int ((nI T))), (9, .int ((nI (lwN S.1 (S.2.1.2.1 i) T).2.2))), (8, .int ((nI (lwN S.1 (S.2.1.2.1 i) T).2.1))), (7, .int ((sI (lwN S.1 (S.2.1.2.1 i) T).1))), (6, .int ((nI (rmis (S.2.1.2.1 i) (pn S.1))))), (5, .ref (49 + c)), (4, .int ((nI i))), (3, .ref 48), (2, .int ((nI (pn S.1)))), (1, .ref 0), (0, .ref 1041)]) hG [0, 1, 2, 3, 4, 5, 6, 7, 8, 9, 10, 11, 12, 13] (by decide) rfl dL_law_105 ?_
  refine z_iconst (pc := 107) (v := (0 : Int32)) hG (by decide) dL_law_107 ?_
  refine z_istore (pc := 108) (ls' := [(14, .int ((0 : Int32))), (13, .int ((nI c))), (12, .ref 48), (11, .int ((0 : Int32))), (10, .int ((nI T))), (9, .int ((nI (lwN S.1 (S.2.1.2.1 i) T).2.2))), (8, .int ((nI (lwN S.1 (S.2.1.2.1 i) T).2.1))), (7, .int ((sI (lwN S.1 (S.2.1.2.1 i) T).1))), (6, .int ((nI (rmis (S.2.1.2.1 i) (pn S.1))))), (5, .ref (49 + c)), (4, .int ((nI i))), (3, .ref 48), (2, .int ((nI (pn S.1)))), (1, .ref 0), (0, .ref 1041)]) hG [0, 1, 2, 3, 4, 5, 6, 7, 8, 9, 10, 11, 12, 13, 14] (by decide) rfl dL_law_108 ?_
  refine z_sub (ls' := [(14, .int (nI 0)), (13, .int (nI c)), (12, .ref 48), (11, .int (nI 0)), (10, .int (nI T)), (9, .int (nI (lwN S.1 (S.2.1.2.1 i) T).2.2)), (8, .int (nI (lwN S.1 (S.2.1.2.1 i) T).2.1)), (7, .int (sI (lwN S.1 (S.2.1.2.1 i) T).1)), (6, .int (nI (rmis (S.2.1.2.1 i) (pn S.1)))), (5, .ref (49 + c)), (4, .int (nI i)), (3, .ref 48), (2, .int (nI (pn S.1))), (1, .ref 0), (0, .ref 1041)]) [0, 1, 2, 3, 4, 5, 6, 7, 8, 9, 10, 11, 12, 13, 14] rfl ?_
  exact k5
theorem st_all {l : Launch} (hl0 : l.flags = flags0) {S : zSt} {c i : Nat} (hB : lwB S c i) : ∀ (q T : Nat) (σ : zS), T + q = 2 ^ pn S.1 → lwW S c i σ → ∃ σ', lwW S c i σ' ∧ hiE σ σ' ∧ σ.2.2.2 ≤ σ'.2.2.2 ∧ ∀ (A B : Nat) x, zG x cL_law 18 RL ret ∧ zl0 x = l → zK x 70 88 [(10, .int (nI (2 ^ pn S.1))), (9, .int (nI (lwN S.1 (S.2.1.2.1 i) (2 ^ pn S.1)).2.2)), (8, .int (nI (lwN S.1 (S.2.1.2.1 i) (2 ^ pn S.1)).2.1)), (7, .int (sI (lwN S.1 (S.2.1.2.1 i) (2 ^ pn S.1)).1)), (6, .int (nI (rmis (S.2.1.2.1 i) (pn S.1)))), (5, .ref (49 + c)), (4, .int (nI i)), (3, .ref 48), (2, .int (nI (pn S.1))), (1, .ref 0), (0, .ref 1041)] [] (zD ++ zEg c (pn S.1)) σ' A B → zK x 70 88 [(10, .int (nI T)), (9, .int (nI (lwN S.1 (S.2.1.2.1 i) T).2.2)), (8, .int (nI (lwN S.1 (S.2.1.2.1 i) T).2.1)), (7, .int (sI (lwN S.1 (S.2.1.2.1 i) T).1)), (6, .int (nI (rmis (S.2.1.2.1 i) (pn S.1)))), (5, .ref (49 + c)), (4, .int (nI i)), (3, .ref 48), (2, .int (nI (pn S.1))), (1, .ref 0), (0, .ref 1041)] [] (zD ++ zEg c (pn S.1)) σ (A + 3342 * q + (σ'.2.2.2 / 64 - σ.2.2.2 / 64)) (B + 20052 * q + 2 * (σ'.2.2.2 - σ.2.2.2))
  | 0, T, σ, h, hW => by
    have hT : T = 2 ^ pn S.1 := h
    subst hT
    exact ⟨σ, hW, hiE.rf, Nat.le_refl _, fun A B x hx kk => z_wk (by omega) (by omega) kk⟩
  | q + 1, T, σ, h, hW => by
    obtain ⟨s1, hW1, hh1, hcap1, k1⟩ := st_one hl0 hB hW (show T < 2 ^ pn S.1 by omega)
    obtain ⟨s2, hW2, hh2, hcap2, k2⟩ := st_all hl0 hB q (T + 1) s1 (by omega) hW1
    refine ⟨s2, hW2, hh1.tr hh2, by omega, fun A B x hx kk => ?_⟩
    exact z_wk (A' := (A + 3342 * q + (s2.2.2.2 / 64 - s1.2.2.2 / 64)) + 3342 + (s1.2.2.2 / 64 - σ.2.2.2 / 64)) (B' := (B + 20052 * q + 2 * (s2.2.2.2 - s1.2.2.2)) + 20052 + 2 * (s1.2.2.2 - σ.2.2.2)) (by omega) (by omega) (k1 _ _ x hx (k2 A B x hx kk))
theorem le_beg {l : Launch} (hl0 : l.flags = flags0) {S : zSt} {σ : zS} {c i : Nat} (hB : lwB S c i) (hW : lwW S c i σ) {v8 : Int32} (hv8 : ls S.1 (S.2.1.2.1 i) ≠ 99 → v8 = nI (lw S.1 (S.2.1.2.1 i))) : ∀ (A B : Nat) x, zG x cL_law 18 RL ret ∧ zl0 x = l → zK x 70 528 [(10, .int (nI 0)), (9, .int (nI (cnt (lsB S.1 (S.2.1.2.1 i)) (2 ^ pn S.1)))), (8, .int v8), (7, .int (sI (ls S.1 (S.2.1.2.1 i)))), (6, .int (nI (rmis (S.2.1.2.1 i) (pn S.1)))), (5, .ref (49 + c)), (4, .int (nI i)), (3, .ref 48), (2, .int (nI (pn S.1))), (1, .ref 0), (0, .ref 1041)] [] (zD ++ zEg c (pn S.1)) σ A B → zK x 70 88 [(10, .int (nI (2 ^ pn S.1))), (9, .int (nI (cnt (lsB S.1 (S.2.1.2.1 i)) (2 ^ pn S.1)))), (8, .int v8), (7, .int (sI (ls S.1 (S.2.1.2.1 i)))), (6, .int (nI (rmis (S.2.1.2.1 i) (pn S.1)))), (5, .ref (49 + c)), (4, .int (nI i)), (3, .ref 48), (2, .int (nI (pn S.1))), (1, .ref 0), (0, .ref 1041)] [] (zD ++ zEg c (pn S.1)) σ (A + 6) (B + 36) := by
  have hn4 := hB.1.2.1
  have h16 : 2 ^ pn S.1 ≤ 2 ^ 4 := Nat.pow_le_pow_right (by decide) hn4
  have h16' : 2 ^ 4 = 16 := by decide
  rintro A B x ⟨hG, hxl⟩ kk
  subst hxl
  refine z_iload (pc := 88) hG 0 rfl dL_law_88 ?_
  refine z_iconst (pc := 90) (v := (1 : Int32)) hG (by decide) dL_law_90 ?_
  refine z_iload_n (pc := 91) hG 8 rfl rfl dL_law_91 ?_
  refine z_ishl (pc := 92) hG dL_law_92 ?_
  rw [show ((1 : Int32) <<< ((nI (pn S.1)) &&& 31)) = (nI (2 ^ pn S.1)) from nI_shl (by omega)]
  refine z_icmp_ge (pc := 93) (tgt := 478) hG dL_law_93 rfl (fun _ => ?_) (fun hbr => False.elim (hbr (Int32.le_refl _)))
  refine z_aload_n (pc := 478) hG 9 rfl rfl dL_law_478 ?_
  refine z_iload (pc := 479) hG 6 rfl dL_law_479 ?_
  refine z_iconst (pc := 481) (v := (0 : Int32)) hG (by decide) dL_law_481 ?_
  refine z_virtS (pc := 482) (A' := A + 4) (B' := B + 24) (st2 := [.int ((if 0 = 0 then sI (ls S.1 (S.2.1.2.1 i)) else if 0 = 1 then wI (lw S.1 (S.2.1.2.1 i)) else nI (cnt (lsB S.1 (S.2.1.2.1 i)) (2 ^ pn S.1))))]) (v := some (.int ((if 0 = 0 then sI (ls S.1 (S.2.1.2.1 i)) else if 0 = 1 then wI (lw S.1 (S.2.1.2.1 i)) else nI (cnt (lsB S.1 (S.2.1.2.1 i)) (2 ^ pn S.1)))))) hG [.int ((nI i)), .int ((0 : Int32))] [] zc_X10 (zEo_0 _) (q_least hl0 (zEg_f _ _) hW.1 hB.p0 hB.2.2 (w := 0) (by decide)) zy_X10_least ⟨w348, w349⟩ w347 dL_law_482 rfl (Nat.le_of_ble_eq_true rfl) (Nat.le_refl _) rfl (zand rfl (zand rfl (zand rfl (zand rfl (zand rfl (zand (zog_N _ _) (zand rfl (zand (zog_48 _ _) (zand rfl (zand (zo_0 _) (zand (zoks_hi (by decide)) rfl))))))))))) rfl rfl (Nat.le_of_ble_eq_true rfl) rfl rfl ?_
  rw [show (if 0 = 0 then sI (ls S.1 (S.2.1.2.1 i)) else if 0 = 1 then wI (lw S.1 (S.2.1.2.1 i)) else nI (cnt (lsB S.1 (S.2.1.2.1 i)) (2 ^ pn S.1))) = (sI (ls S.1 (S.2.1.2.1 i))) from if_pos rfl]
  refine z_iload (pc := 485) hG 3 rfl dL_law_485 ?_
  refine z_icmp_ne (pc := 487) (tgt := 523) hG dL_law_487 rfl (fun hbr => False.elim ((fun h => h rfl) hbr)) (fun _ => ?_)
  refine z_aload_n (pc := 490) hG 9 rfl rfl dL_law_490 ?_
  refine z_iload (pc := 491) hG 6 rfl dL_law_491 ?_
  refine z_iconst (pc := 493) (v := (1 : Int32)) hG (by decide) dL_law_493 ?_
  refine z_virtS (pc := 494) (A' := A + 2) (B' := B + 12) (st2 := [.int ((if 1 = 0 then sI (ls S.1 (S.2.1.2.1 i)) else if 1 = 1 then wI (lw S.1 (S.2.1.2.1 i)) else nI (cnt (lsB S.1 (S.2.1.2.1 i)) (2 ^ pn S.1))))]) (v := some (.int ((if 1 = 0 then sI (ls S.1 (S.2.1.2.1 i)) else if 1 = 1 then wI (lw S.1 (S.2.1.2.1 i)) else nI (cnt (lsB S.1 (S.2.1.2.1 i)) (2 ^ pn S.1)))))) hG [.int ((nI i)), .int ((1 : Int32))] [] zc_X10 (zEo_0 _) (q_least hl0 (zEg_f _ _) hW.1 hB.p0 hB.2.2 (w := 1) (by decide)) zy_X10_least ⟨w348, w349⟩ w347 dL_law_494 rfl (Nat.le_of_ble_eq_true rfl) (Nat.le_refl _) rfl (zand rfl (zand rfl (zand rfl (zand rfl (zand rfl (zand (zog_N _ _) (zand rfl (zand (zog_48 _ _) (zand rfl (zand (zo_0 _) (zand (zoks_hi (by decide)) rfl))))))))))) rfl rfl (Nat.le_of_ble_eq_true rfl) rfl rfl ?_
  rw [show (if 1 = 0 then sI (ls S.1 (S.2.1.2.1 i)) else if 1 = 1 then wI (lw S.1 (S.2.1.2.1 i)) else nI (cnt (lsB S.1 (S.2.1.2.1 i)) (2 ^ pn S.1))) = wI (lw S.1 (S.2.1.2.1 i)) from rfl]
  by_cases h99 : ls S.1 (S.2.1.2.1 i) = 99
  · have hneg : ¬ 0 ≤ sI (ls S.1 (S.2.1.2.1 i)) := by rw [h99]; decide
    have hwa : wI (lw S.1 (S.2.1.2.1 i)) = (-1 : Int32) := by
      unfold lw wI
      rw [if_pos h99]
      rfl
    refine z_iload (pc := 497) hG 3 rfl dL_law_497 ?_
    refine z_if_ge (pc := 499) (tgt := 506) hG dL_law_499 rfl (fun hbr => False.elim ((fun h => hneg h) hbr)) (fun _ => ?_)
    refine z_iconst (pc := 502) (v := (-1 : Int32)) hG (by decide) dL_law_502 ?_
    refine z_goto (pc := 503) (tgt := 508) hG dL_law_503 rfl ?_
    refine z_icmp_ne (pc := 508) (tgt := 523) hG dL_law_508 rfl (fun hbr => False.elim ((fun h => h hwa) hbr)) (fun _ => ?_)
    refine z_aload_n (pc := 511) hG 9 rfl rfl dL_law_511 ?_
    refine z_iload (pc := 512) hG 6 rfl dL_law_512 ?_
    refine z_iconst (pc := 514) (v := (2 : Int32)) hG (by decide) dL_law_514 ?_
    refine z_virtS (pc := 515) (A' := A) (B' := B) (st2 := [.int ((if 2 = 0 then sI (ls S.1 (S.2.1.2.1 i)) else if 2 = 1 then wI (lw S.1 (S.2.1.2.1 i)) else nI (cnt (lsB S.1 (S.2.1.2.1 i)) (2 ^ pn S.1))))]) (v := some (.int ((if 2 = 0 then sI (ls S.1 (S.2.1.2.1 i)) else if 2 = 1 then wI (lw S.1 (S.2.1.2.1 i)) else nI (cnt (lsB S.1 (S.2.1.2.1 i)) (2 ^ pn S.1)))))) hG [.int ((nI i)), .int ((2 : Int32))] [] zc_X10 (zEo_0 _) (q_least hl0 (zEg_f _ _) hW.1 hB.p0 hB.2.2 (w := 2) (by decide)) zy_X10_least ⟨w348, w349⟩ w347 dL_law_515 rfl (Nat.le_of_ble_eq_true rfl) (Nat.le_refl _) rfl (zand rfl (zand rfl (zand rfl (zand rfl (zand rfl (zand (zog_N _ _) (zand rfl (zand (zog_48 _ _) (zand rfl (zand (zo_0 _) (zand (zoks_hi (by decide)) rfl))))))))))) rfl rfl (Nat.le_of_ble_eq_true rfl) rfl rfl ?_
    rw [show (if 2 = 0 then sI (ls S.1 (S.2.1.2.1 i)) else if 2 = 1 then wI (lw S.1 (S.2.1.2.1 i)) else nI (cnt (lsB S.1 (S.2.1.2.1 i)) (2 ^ pn S.1))) = nI (cnt (lsB S.1 (S.2.1.2.1 i)) (2 ^ pn S.1)) from rfl]
    refine z_iload (pc := 518) hG 1 rfl dL_law_518 ?_
    refine z_icmp_eq (pc := 520) (tgt := 525) hG dL_law_520 rfl (fun _ => ?_) (fun hbr => False.elim (hbr (rfl)))
    refine z_iconst (pc := 525) (v := (0 : Int32)) hG (by decide) dL_law_525 ?_
    refine z_istore (pc := 526) (ls' := [(10, .int ((0 : Int32))), (9, .int ((nI (cnt (lsB S.1 (S.2.1.2.1 i)) (2 ^ pn S.1))))), (8, .int v8), (7, .int ((sI (ls S.1 (S.2.1.2.1 i))))), (6, .int ((nI (rmis (S.2.1.2.1 i) (pn S.1))))), (5, .ref (49 + c)), (4, .int ((nI i))), (3, .ref 48), (2, .int ((nI (pn S.1)))), (1, .ref 0), (0, .ref 1041)]) hG [0, 1, 2, 3, 4, 5, 6, 7, 8, 9, 10] (by decide) rfl dL_law_526 ?_
    refine z_sub (ls' := [(10, .int (nI 0)), (9, .int (nI (cnt (lsB S.1 (S.2.1.2.1 i)) (2 ^ pn S.1)))), (8, .int v8), (7, .int (sI (ls S.1 (S.2.1.2.1 i)))), (6, .int (nI (rmis (S.2.1.2.1 i) (pn S.1)))), (5, .ref (49 + c)), (4, .int (nI i)), (3, .ref 48), (2, .int (nI (pn S.1))), (1, .ref 0), (0, .ref 1041)]) [0, 1, 2, 3, 4, 5, 6, 7, 8, 9, 10] rfl ?_
    exact kk
  · have hls : ls S.1 (S.2.1.2.1 i) < 2 ^ pn S.1 := by
      rcases ls_spec hW.1.1 (S.2.1.2.1 i) with h | h
      · exact absurd h.1 h99
      · exact h.1
    have hpos : 0 ≤ sI (ls S.1 (S.2.1.2.1 i)) := by
      unfold sI
      rw [if_neg h99]
      exact nI_0le (by omega)
    have hwl : wSum S.1 (ls S.1 (S.2.1.2.1 i)) (pn S.1) ≤ 9 * pn S.1 := wSum_le hW.1.1 _ _ (Nat.le_refl _)
    have hwb : wI (lw S.1 (S.2.1.2.1 i)) = v8 := by
      rw [hv8 h99]
      unfold wI
      refine if_neg ?_
      unfold lw
      rw [if_neg h99]
      omega
    refine z_iload (pc := 497) hG 3 rfl dL_law_497 ?_
    refine z_if_ge (pc := 499) (tgt := 506) hG dL_law_499 rfl (fun _ => ?_) (fun hbr => False.elim (hbr (hpos)))
    refine z_iload (pc := 506) hG 2 rfl dL_law_506 ?_
    refine z_icmp_ne (pc := 508) (tgt := 523) hG dL_law_508 rfl (fun hbr => False.elim ((fun h => h hwb) hbr)) (fun _ => ?_)
    refine z_aload_n (pc := 511) hG 9 rfl rfl dL_law_511 ?_
    refine z_iload (pc := 512) hG 6 rfl dL_law_512 ?_
    refine z_iconst (pc := 514) (v := (2 : Int32)) hG (by decide) dL_law_514 ?_
    refine z_virtS (pc := 515) (A' := A) (B' := B) (st2 := [.int ((if 2 = 0 then sI (ls S.1 (S.2.1.2.1 i)) else if 2 = 1 then wI (lw S.1 (S.2.1.2.1 i)) else nI (cnt (lsB S.1 (S.2.1.2.1 i)) (2 ^ pn S.1))))]) (v := some (.int ((if 2 = 0 then sI (ls S.1 (S.2.1.2.1 i)) else if 2 = 1 then wI (lw S.1 (S.2.1.2.1 i)) else nI (cnt (lsB S.1 (S.2.1.2.1 i)) (2 ^ pn S.1)))))) hG [.int ((nI i)), .int ((2 : Int32))] [] zc_X10 (zEo_0 _) (q_least hl0 (zEg_f _ _) hW.1 hB.p0 hB.2.2 (w := 2) (by decide)) zy_X10_least ⟨w348, w349⟩ w347 dL_law_515 rfl (Nat.le_of_ble_eq_true rfl) (Nat.le_refl _) rfl (zand rfl (zand rfl (zand rfl (zand rfl (zand rfl (zand (zog_N _ _) (zand rfl (zand (zog_48 _ _) (zand rfl (zand (zo_0 _) (zand (zoks_hi (by decide)) rfl))))))))))) rfl rfl (Nat.le_of_ble_eq_true rfl) rfl rfl ?_
    rw [show (if 2 = 0 then sI (ls S.1 (S.2.1.2.1 i)) else if 2 = 1 then wI (lw S.1 (S.2.1.2.1 i)) else nI (cnt (lsB S.1 (S.2.1.2.1 i)) (2 ^ pn S.1))) = nI (cnt (lsB S.1 (S.2.1.2.1 i)) (2 ^ pn S.1)) from rfl]
    refine z_iload (pc := 518) hG 1 rfl dL_law_518 ?_
    refine z_icmp_eq (pc := 520) (tgt := 525) hG dL_law_520 rfl (fun _ => ?_) (fun hbr => False.elim (hbr (rfl)))
    refine z_iconst (pc := 525) (v := (0 : Int32)) hG (by decide) dL_law_525 ?_
    refine z_istore (pc := 526) (ls' := [(10, .int ((0 : Int32))), (9, .int ((nI (cnt (lsB S.1 (S.2.1.2.1 i)) (2 ^ pn S.1))))), (8, .int v8), (7, .int ((sI (ls S.1 (S.2.1.2.1 i))))), (6, .int ((nI (rmis (S.2.1.2.1 i) (pn S.1))))), (5, .ref (49 + c)), (4, .int ((nI i))), (3, .ref 48), (2, .int ((nI (pn S.1)))), (1, .ref 0), (0, .ref 1041)]) hG [0, 1, 2, 3, 4, 5, 6, 7, 8, 9, 10] (by decide) rfl dL_law_526 ?_
    refine z_sub (ls' := [(10, .int (nI 0)), (9, .int (nI (cnt (lsB S.1 (S.2.1.2.1 i)) (2 ^ pn S.1)))), (8, .int v8), (7, .int (sI (ls S.1 (S.2.1.2.1 i)))), (6, .int (nI (rmis (S.2.1.2.1 i) (pn S.1)))), (5, .ref (49 + c)), (4, .int (nI i)), (3, .ref 48), (2, .int (nI (pn S.1))), (1, .ref 0), (0, .ref 1041)]) [0, 1, 2, 3, 4, 5, 6, 7, 8, 9, 10] rfl ?_
    exact kk
theorem lo_one {l : Launch} (hl0 : l.flags = flags0) {S : zSt} {σ : zS} {c i : Nat} (hB : lwB S c i) (hW : lwW S c i σ) {v8 : Int32} {t : Nat} (ht : t < (cnt (lsB S.1 (S.2.1.2.1 i)) (2 ^ pn S.1))) : ∀ (A B : Nat) x, zG x cL_law 18 RL ret ∧ zl0 x = l → zK x 70 528 [(10, .int (nI (t + 1))), (9, .int (nI (cnt (lsB S.1 (S.2.1.2.1 i)) (2 ^ pn S.1)))), (8, .int v8), (7, .int (sI (ls S.1 (S.2.1.2.1 i)))), (6, .int (nI (rmis (S.2.1.2.1 i) (pn S.1)))), (5, .ref (49 + c)), (4, .int (nI i)), (3, .ref 48), (2, .int (nI (pn S.1))), (1, .ref 0), (0, .ref 1041)] [] (zD ++ zEg c (pn S.1)) σ A B → zK x 70 528 [(10, .int (nI t)), (9, .int (nI (cnt (lsB S.1 (S.2.1.2.1 i)) (2 ^ pn S.1)))), (8, .int v8), (7, .int (sI (ls S.1 (S.2.1.2.1 i)))), (6, .int (nI (rmis (S.2.1.2.1 i) (pn S.1)))), (5, .ref (49 + c)), (4, .int (nI i)), (3, .ref 48), (2, .int (nI (pn S.1))), (1, .ref 0), (0, .ref 1041)] [] (zD ++ zEg c (pn S.1)) σ (A + 6) (B + 36) := by
  have hn4 := hB.1.2.1
  have h16 : 2 ^ pn S.1 ≤ 2 ^ 4 := Nat.pow_le_pow_right (by decide) hn4
  have h16' : 2 ^ 4 = 16 := by decide
  have hq16 := cnt_le (lsB S.1 (S.2.1.2.1 i)) (2 ^ pn S.1)
  obtain ⟨y, hy1, hy2, hy3, hy4⟩ := kth_at (p := lsB S.1 (S.2.1.2.1 i)) (n := 2 ^ pn S.1) (by omega) ht
  rintro A B x ⟨hG, hxl⟩ kk
  subst hxl
  refine z_aload_n (pc := 528) hG 9 rfl rfl dL_law_528 ?_
  refine z_iload (pc := 529) hG 6 rfl dL_law_529 ?_
  refine z_iload (pc := 531) hG 0 rfl dL_law_531 ?_
  refine z_virtS (pc := 533) (A' := A + 5) (B' := B + 30) (st2 := [.int ((kth (lsB S.1 (S.2.1.2.1 i)) (2 ^ pn S.1) (nI t)))]) (v := some (.int ((kth (lsB S.1 (S.2.1.2.1 i)) (2 ^ pn S.1) (nI t))))) hG [.int ((nI i)), .int ((nI t))] [] zc_X10 (zEo_0 _) (q_leastOf hl0 (zEg_f _ _) hW.1 hB.p0 hB.2.2) zy_X10_leastOf ⟨w371, w372⟩ w370 dL_law_533 rfl (Nat.le_of_ble_eq_true rfl) (Nat.le_refl _) rfl (zand rfl (zand rfl (zand rfl (zand rfl (zand rfl (zand (zog_N _ _) (zand rfl (zand (zog_48 _ _) (zand rfl (zand (zo_0 _) (zand (zoks_hi (by decide)) rfl))))))))))) rfl rfl (Nat.le_of_ble_eq_true rfl) rfl rfl ?_
  rw [show (kth (lsB S.1 (S.2.1.2.1 i)) (2 ^ pn S.1) (nI t)) = (nI y) from hy4]
  refine z_if_lt (pc := 536) (tgt := 590) hG dL_law_536 rfl (fun hbr => False.elim ((fun h => nI_nn (by omega) h) hbr)) (fun _ => ?_)
  refine z_aload_n (pc := 539) hG 9 rfl rfl dL_law_539 ?_
  refine z_iload (pc := 540) hG 6 rfl dL_law_540 ?_
  refine z_aload_n (pc := 542) hG 9 rfl rfl dL_law_542 ?_
  refine z_iload (pc := 543) hG 6 rfl dL_law_543 ?_
  refine z_iload (pc := 545) hG 0 rfl dL_law_545 ?_
  refine z_virtS (pc := 547) (A' := A + 4) (B' := B + 24) (st2 := [.int ((kth (lsB S.1 (S.2.1.2.1 i)) (2 ^ pn S.1) (nI t))), .int ((nI i)), .ref 0]) (v := some (.int ((kth (lsB S.1 (S.2.1.2.1 i)) (2 ^ pn S.1) (nI t))))) hG [.int ((nI i)), .int ((nI t))] [.int ((nI i)), .ref 0] zc_X10 (zEo_0 _) (q_leastOf hl0 (zEg_f _ _) hW.1 hB.p0 hB.2.2) zy_X10_leastOf ⟨w371, w372⟩ w370 dL_law_547 rfl (Nat.le_of_ble_eq_true rfl) (Nat.le_refl _) (zand rfl (zand (zo_0 _) rfl)) (zand rfl (zand rfl (zand rfl (zand rfl (zand rfl (zand (zog_N _ _) (zand rfl (zand (zog_48 _ _) (zand rfl (zand (zo_0 _) (zand (zoks_hi (by decide)) rfl))))))))))) rfl rfl (Nat.le_of_ble_eq_true rfl) rfl rfl ?_
  rw [show (kth (lsB S.1 (S.2.1.2.1 i)) (2 ^ pn S.1) (nI t)) = (nI y) from hy4]
  have hcm : cmd S.1 (S.2.1.2.1 i) y = true := (Bool.and_eq_true _ _ ▸ hy2 : _ ∧ _).2
  refine z_virtS (pc := 550) (A' := A + 2) (B' := B + 12) (st2 := [.int ((if cmd S.1 (S.2.1.2.1 i) y then 1 else 0 : Int32))]) (v := some (.int ((if cmd S.1 (S.2.1.2.1 i) y then 1 else 0 : Int32)))) hG [.int ((nI i)), .int ((nI y))] [] zc_X10 (zEo_0 _) (q_mends hl0 (zEg_f _ _) hW.1 hB.p0 hB.2.2 hy1) zy_X10_mends ⟨w308, w309⟩ w307 dL_law_550 rfl (Nat.le_of_ble_eq_true rfl) (Nat.le_refl _) rfl (zand rfl (zand rfl (zand rfl (zand rfl (zand rfl (zand (zog_N _ _) (zand rfl (zand (zog_48 _ _) (zand rfl (zand (zo_0 _) (zand (zoks_hi (by decide)) rfl))))))))))) rfl rfl (Nat.le_of_ble_eq_true rfl) rfl rfl ?_
  rw [show (if cmd S.1 (S.2.1.2.1 i) y then 1 else 0 : Int32) = (1 : Int32) from if_pos hcm]
  refine z_if_eq (pc := 553) (tgt := 582) hG dL_law_553 rfl (fun hbr => False.elim ((fun h => absurd h (by decide)) hbr)) (fun _ => ?_)
  refine z_iload (pc := 556) hG 0 rfl dL_law_556 ?_
  by_cases ht0 : t = 0
  · refine z_if_le (pc := 558) (tgt := 584) hG dL_law_558 rfl (fun _ => ?_) (fun hbr => False.elim (hbr (by rw [ht0]; decide)))
    refine z_iinc (pc := 584) (v := (nI (t + 1))) (ls' := [(10, .int ((nI (t + 1)))), (9, .int ((nI (cnt (lsB S.1 (S.2.1.2.1 i)) (2 ^ pn S.1))))), (8, .int v8), (7, .int ((sI (ls S.1 (S.2.1.2.1 i))))), (6, .int ((nI (rmis (S.2.1.2.1 i) (pn S.1))))), (5, .ref (49 + c)), (4, .int ((nI i))), (3, .ref 48), (2, .int ((nI (pn S.1)))), (1, .ref 0), (0, .ref 1041)]) hG 0 rfl [0, 1, 2, 3, 4, 5, 6, 7, 8, 9, 10] (nI_1s) (by decide) rfl dL_law_584 ?_
    refine z_goto (pc := 587) (tgt := 528) hG dL_law_587 rfl ?_
    exact z_wk (by omega) (by omega) kk
  · obtain ⟨z, hz1, hz2, hz3, hz4⟩ := kth_at (p := lsB S.1 (S.2.1.2.1 i)) (n := 2 ^ pn S.1) (t := t - 1) (by omega) (by omega)
    have hzy : z < y := cnt_up (p := lsB S.1 (S.2.1.2.1 i)) (by omega)
    refine z_if_le (pc := 558) (tgt := 584) hG dL_law_558 rfl (fun hbr => False.elim ((fun h => nI_nle (show 0 < t by omega) (by omega) h) hbr)) (fun _ => ?_)
    refine z_aload_n (pc := 561) hG 9 rfl rfl dL_law_561 ?_
    refine z_iload (pc := 562) hG 6 rfl dL_law_562 ?_
    refine z_iload (pc := 564) hG 0 rfl dL_law_564 ?_
    refine z_virtS (pc := 566) (A' := A + 1) (B' := B + 6) (st2 := [.int ((kth (lsB S.1 (S.2.1.2.1 i)) (2 ^ pn S.1) (nI t)))]) (v := some (.int ((kth (lsB S.1 (S.2.1.2.1 i)) (2 ^ pn S.1) (nI t))))) hG [.int ((nI i)), .int ((nI t))] [] zc_X10 (zEo_0 _) (q_leastOf hl0 (zEg_f _ _) hW.1 hB.p0 hB.2.2) zy_X10_leastOf ⟨w371, w372⟩ w370 dL_law_566 rfl (Nat.le_of_ble_eq_true rfl) (Nat.le_refl _) rfl (zand rfl (zand rfl (zand rfl (zand rfl (zand rfl (zand (zog_N _ _) (zand rfl (zand (zog_48 _ _) (zand rfl (zand (zo_0 _) (zand (zoks_hi (by decide)) rfl))))))))))) rfl rfl (Nat.le_of_ble_eq_true rfl) rfl rfl ?_
    rw [show (kth (lsB S.1 (S.2.1.2.1 i)) (2 ^ pn S.1) (nI t)) = (nI y) from hy4]
    refine z_aload_n (pc := 569) hG 9 rfl rfl dL_law_569 ?_
    refine z_iload (pc := 570) hG 6 rfl dL_law_570 ?_
    refine z_iload (pc := 572) hG 0 rfl dL_law_572 ?_
    refine z_iconst (pc := 574) (v := (1 : Int32)) hG (by decide) dL_law_574 ?_
    refine z_isub (pc := 575) hG dL_law_575 ?_
    rw [show ((nI t) - (1 : Int32)) = (nI (t - 1)) from nI_sub (b := 1) (by omega)]
    refine z_virtS (pc := 576) (A' := A) (B' := B) (st2 := [.int ((kth (lsB S.1 (S.2.1.2.1 i)) (2 ^ pn S.1) (nI (t - 1)))), .int ((nI y))]) (v := some (.int ((kth (lsB S.1 (S.2.1.2.1 i)) (2 ^ pn S.1) (nI (t - 1)))))) hG [.int ((nI i)), .int ((nI (t - 1)))] [.int ((nI y))] zc_X10 (zEo_0 _) (q_leastOf hl0 (zEg_f _ _) hW.1 hB.p0 hB.2.2) zy_X10_leastOf ⟨w371, w372⟩ w370 dL_law_576 rfl (Nat.le_of_ble_eq_true rfl) (Nat.le_refl _) (zand rfl rfl) (zand rfl (zand rfl (zand rfl (zand rfl (zand rfl (zand (zog_N _ _) (zand rfl (zand (zog_48 _ _) (zand rfl (zand (zo_0 _) (zand (zoks_hi (by decide)) rfl))))))))))) rfl rfl (Nat.le_of_ble_eq_true rfl) rfl rfl ?_
    rw [show (kth (lsB S.1 (S.2.1.2.1 i)) (2 ^ pn S.1) (nI (t - 1))) = (nI z) from hz4]
    refine z_icmp_gt (pc := 579) (tgt := 584) hG dL_law_579 rfl (fun _ => ?_) (fun hbr => False.elim (hbr (nI_lt hzy (by omega))))
    refine z_iinc (pc := 584) (v := (nI (t + 1))) (ls' := [(10, .int ((nI (t + 1)))), (9, .int ((nI (cnt (lsB S.1 (S.2.1.2.1 i)) (2 ^ pn S.1))))), (8, .int v8), (7, .int ((sI (ls S.1 (S.2.1.2.1 i))))), (6, .int ((nI (rmis (S.2.1.2.1 i) (pn S.1))))), (5, .ref (49 + c)), (4, .int ((nI i))), (3, .ref 48), (2, .int ((nI (pn S.1)))), (1, .ref 0), (0, .ref 1041)]) hG 0 rfl [0, 1, 2, 3, 4, 5, 6, 7, 8, 9, 10] (nI_1s) (by decide) rfl dL_law_584 ?_
    refine z_goto (pc := 587) (tgt := 528) hG dL_law_587 rfl ?_
    exact kk
theorem lo_all {l : Launch} (hl0 : l.flags = flags0) {S : zSt} {σ : zS} {c i : Nat} (hB : lwB S c i) (hW : lwW S c i σ) {v8 : Int32} : ∀ (q t : Nat), t + q = (cnt (lsB S.1 (S.2.1.2.1 i)) (2 ^ pn S.1)) → ∀ (A B : Nat) x, zG x cL_law 18 RL ret ∧ zl0 x = l → zK x 70 599 [(9, .int (nI (cnt (lsB S.1 (S.2.1.2.1 i)) (2 ^ pn S.1)))), (8, .int v8), (7, .int (sI (ls S.1 (S.2.1.2.1 i)))), (6, .int (nI (rmis (S.2.1.2.1 i) (pn S.1)))), (5, .ref (49 + c)), (4, .int (nI i)), (3, .ref 48), (2, .int (nI (pn S.1))), (1, .ref 0), (0, .ref 1041)] [] (zD ++ zEg c (pn S.1)) σ A B → zK x 70 528 [(10, .int (nI t)), (9, .int (nI (cnt (lsB S.1 (S.2.1.2.1 i)) (2 ^ pn S.1)))), (8, .int v8), (7, .int (sI (ls S.1 (S.2.1.2.1 i)))), (6, .int (nI (rmis (S.2.1.2.1 i) (pn S.1)))), (5, .ref (49 + c)), (4, .int (nI i)), (3, .ref 48), (2, .int (nI (pn S.1))), (1, .ref 0), (0, .ref 1041)] [] (zD ++ zEg c (pn S.1)) σ (A + 1 + 6 * q) (B + 6 + 36 * q)
  | 0, t, h, A, B, x, hx, kk => by
    have ht : t = (cnt (lsB S.1 (S.2.1.2.1 i)) (2 ^ pn S.1)) := h
    subst ht
    have hn4 := hB.1.2.1
    have h16 : 2 ^ pn S.1 ≤ 2 ^ 4 := Nat.pow_le_pow_right (by decide) hn4
    have h16' : 2 ^ 4 = 16 := by decide
    have hq16 := cnt_le (lsB S.1 (S.2.1.2.1 i)) (2 ^ pn S.1)
    obtain ⟨hG, hxl⟩ := hx
    subst hxl
    refine z_wk (A' := A + 1) (B' := B + 6) (by omega) (by omega) ?_
    refine z_aload_n (pc := 528) hG 9 rfl rfl dL_law_528 ?_
    refine z_iload (pc := 529) hG 6 rfl dL_law_529 ?_
    refine z_iload (pc := 531) hG 0 rfl dL_law_531 ?_
    refine z_virtS (pc := 533) (A' := A) (B' := B) (st2 := [.int ((kth (lsB S.1 (S.2.1.2.1 i)) (2 ^ pn S.1) (nI (cnt (lsB S.1 (S.2.1.2.1 i)) (2 ^ pn S.1)))))]) (v := some (.int ((kth (lsB S.1 (S.2.1.2.1 i)) (2 ^ pn S.1) (nI (cnt (lsB S.1 (S.2.1.2.1 i)) (2 ^ pn S.1))))))) hG [.int ((nI i)), .int ((nI (cnt (lsB S.1 (S.2.1.2.1 i)) (2 ^ pn S.1))))] [] zc_X10 (zEo_0 _) (q_leastOf hl0 (zEg_f _ _) hW.1 hB.p0 hB.2.2) zy_X10_leastOf ⟨w371, w372⟩ w370 dL_law_533 rfl (Nat.le_of_ble_eq_true rfl) (Nat.le_refl _) rfl (zand rfl (zand rfl (zand rfl (zand rfl (zand rfl (zand (zog_N _ _) (zand rfl (zand (zog_48 _ _) (zand rfl (zand (zo_0 _) (zand (zoks_hi (by decide)) rfl))))))))))) rfl rfl (Nat.le_of_ble_eq_true rfl) rfl rfl ?_
    rw [show (kth (lsB S.1 (S.2.1.2.1 i)) (2 ^ pn S.1) (nI (cnt (lsB S.1 (S.2.1.2.1 i)) (2 ^ pn S.1)))) = (-1 : Int32) from kth_end (by omega) (by omega) (Nat.le_refl _)]
    refine z_if_lt (pc := 536) (tgt := 590) hG dL_law_536 rfl (fun _ => ?_) (fun hbr => False.elim (hbr (by decide)))
    refine z_iload (pc := 590) hG 0 rfl dL_law_590 ?_
    refine z_iload (pc := 592) hG 1 rfl dL_law_592 ?_
    refine z_icmp_eq (pc := 594) (tgt := 599) hG dL_law_594 rfl (fun _ => ?_) (fun hbr => False.elim (hbr (rfl)))
    refine z_sub (ls' := [(9, .int (nI (cnt (lsB S.1 (S.2.1.2.1 i)) (2 ^ pn S.1)))), (8, .int v8), (7, .int (sI (ls S.1 (S.2.1.2.1 i)))), (6, .int (nI (rmis (S.2.1.2.1 i) (pn S.1)))), (5, .ref (49 + c)), (4, .int (nI i)), (3, .ref 48), (2, .int (nI (pn S.1))), (1, .ref 0), (0, .ref 1041)]) [1, 2, 3, 4, 5, 6, 7, 8, 9, 10] rfl ?_
    exact kk
  | q + 1, t, h, A, B, x, hx, kk => z_wk (A' := A + 1 + 6 * q + 6) (B' := B + 6 + 36 * q + 36) (by omega) (by omega) (lo_one hl0 hB hW (by omega) _ _ x hx (lo_all hl0 hB hW q (t + 1) (by omega) A B x hx kk))
