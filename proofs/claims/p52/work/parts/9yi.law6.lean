/-! ===== the law's walk: what stands in the fields of the least set ===== -/
theorem nJ_n0 {r : Nat} (h : r ≠ 0) : nJ r = nI (r - 1) := by
  cases r with
  | zero => exact absurd rfl h
  | succ k => exact nJ_s1
theorem vq_one {l : Launch} (hl0 : l.flags = flags0) {S : zSt} {σ : zS} {c i : Nat} (hB : lwB S c i) (hW : lwW S c i σ) {v8 : Int32} {f : Nat} (h99 : ls S.1 (S.2.1.2.1 i) ≠ 99) (hf : f < pn S.1) : ∀ (A B : Nat) x, zG x cL_law 18 RL ret ∧ zl0 x = l → zK x 70 602 [(11, .int (nI (f + 1))), (9, .int (nI (cnt (lsB S.1 (S.2.1.2.1 i)) (2 ^ pn S.1)))), (8, .int v8), (7, .int (nI (ls S.1 (S.2.1.2.1 i)))), (6, .int (nI (rmis (S.2.1.2.1 i) (pn S.1)))), (5, .ref (49 + c)), (4, .int (nI i)), (3, .ref 48), (2, .int (nI (pn S.1))), (1, .ref 0), (0, .ref 1041)] [] (zD ++ zEg c (pn S.1)) σ A B → zK x 70 602 [(11, .int (nI f)), (9, .int (nI (cnt (lsB S.1 (S.2.1.2.1 i)) (2 ^ pn S.1)))), (8, .int v8), (7, .int (nI (ls S.1 (S.2.1.2.1 i)))), (6, .int (nI (rmis (S.2.1.2.1 i) (pn S.1)))), (5, .ref (49 + c)), (4, .int (nI i)), (3, .ref 48), (2, .int (nI (pn S.1))), (1, .ref 0), (0, .ref 1041)] [] (zD ++ zEg c (pn S.1)) σ (A + 4) (B + 24) := by
  have hn4 := hB.1.2.1
  have hO := hW.1.1
  have hrk := hW.rok hB
  obtain ⟨hls, hcm, _⟩ := (ls_spec hO (S.2.1.2.1 i)).resolve_left (fun q => h99 q.1)
  have h16 : 2 ^ pn S.1 ≤ 2 ^ 4 := Nat.pow_le_pow_right (by decide) hn4
  have h16' : 2 ^ 4 = 16 := by decide
  obtain ⟨a, hwy⟩ := (cmd_iff hO hrk).mp hcm
  have hV32 := vIn_lt (S := ls S.1 (S.2.1.2.1 i)) hO hrk hf
  have hV64 : vIn S.1 (S.2.1.2.1 i) (ls S.1 (S.2.1.2.1 i)) f < 64 := by omega
  have hVb : (vIn S.1 (S.2.1.2.1 i) (ls S.1 (S.2.1.2.1 i)) f).testBit (a f) = true := (vIn_iff hO hrk hf).mpr ⟨a, hwy, rfl⟩
  have hV0 : vIn S.1 (S.2.1.2.1 i) (ls S.1 (S.2.1.2.1 i)) f ≠ 0 := fun q => by
    rw [q, Nat.zero_testBit] at hVb
    cases hVb
  have hpl := pcn_le6 (vIn S.1 (S.2.1.2.1 i) (ls S.1 (S.2.1.2.1 i)) f)
  have hfe : frc S.1 (S.2.1.2.1 i) = bS (fun f => (ls S.1 (S.2.1.2.1 i)).testBit f && pcn (vIn S.1 (S.2.1.2.1 i) (ls S.1 (S.2.1.2.1 i)) f) == 1) (pn S.1) := if_neg h99
  have hfl : frc S.1 (S.2.1.2.1 i) < 16 := by
    rw [hfe]
    exact Nat.lt_of_lt_of_le (bS_lt _ _) h16
  have hfb : (frc S.1 (S.2.1.2.1 i)).testBit f = ((ls S.1 (S.2.1.2.1 i)).testBit f && pcn (vIn S.1 (S.2.1.2.1 i) (ls S.1 (S.2.1.2.1 i)) f) == 1) := by
    rw [hfe, bS_bit, decide_eq_true hf, Bool.true_and]
  have hr8 := rv_lt8 (S.2.1.2.1 i) f
  rintro A B x ⟨hG, hxl⟩ kk
  subst hxl
  refine z_iload (pc := 602) hG 0 rfl dL_law_602 ?_
  refine z_iload_n (pc := 604) hG 8 rfl rfl dL_law_604 ?_
  refine z_icmp_ge (pc := 605) (tgt := 712) hG dL_law_605 rfl (fun hbr => False.elim ((fun h => nI_nle2 hf (by omega) h) hbr)) (fun _ => ?_)
  refine z_iload (pc := 608) hG 3 rfl dL_law_608 ?_
  refine z_if_lt (pc := 610) (tgt := 712) hG dL_law_610 rfl (fun hbr => False.elim ((fun h => nI_nn (by omega) h) hbr)) (fun _ => ?_)
  refine z_aload_n (pc := 613) hG 9 rfl rfl dL_law_613 ?_
  refine z_iload (pc := 614) hG 6 rfl dL_law_614 ?_
  refine z_iload (pc := 616) hG 3 rfl dL_law_616 ?_
  refine z_iload (pc := 618) hG 0 rfl dL_law_618 ?_
  refine z_virtS (pc := 620) (A' := A + 1) (B' := B + 6) (st2 := [.int ((nI (vIn S.1 (S.2.1.2.1 i) (ls S.1 (S.2.1.2.1 i)) f)))]) (v := some (.int ((nI (vIn S.1 (S.2.1.2.1 i) (ls S.1 (S.2.1.2.1 i)) f))))) hG [.int ((nI i)), .int ((nI (ls S.1 (S.2.1.2.1 i)))), .int ((nI f))] [] zc_X10 (zEo_0 _) (q_values hl0 (zEg_f _ _) hW.1 hB.p0 hB.2.2 hls hf) zy_X10_values ⟨w379, w380⟩ w378 dL_law_620 rfl (Nat.le_of_ble_eq_true rfl) (Nat.le_refl _) rfl (zand rfl (zand rfl (zand rfl (zand rfl (zand rfl (zand (zog_N _ _) (zand rfl (zand (zog_48 _ _) (zand rfl (zand (zo_0 _) (zand (zoks_hi (by decide)) rfl))))))))))) rfl rfl (Nat.le_of_ble_eq_true rfl) rfl rfl ?_
  refine z_istore (pc := 623) (ls' := [(12, .int ((nI (vIn S.1 (S.2.1.2.1 i) (ls S.1 (S.2.1.2.1 i)) f)))), (11, .int ((nI f))), (9, .int ((nI (cnt (lsB S.1 (S.2.1.2.1 i)) (2 ^ pn S.1))))), (8, .int v8), (7, .int ((nI (ls S.1 (S.2.1.2.1 i))))), (6, .int ((nI (rmis (S.2.1.2.1 i) (pn S.1))))), (5, .ref (49 + c)), (4, .int ((nI i))), (3, .ref 48), (2, .int ((nI (pn S.1)))), (1, .ref 0), (0, .ref 1041)]) hG [0, 1, 2, 3, 4, 5, 6, 7, 8, 9, 10, 11] (by decide) rfl dL_law_623 ?_
  refine z_iload (pc := 625) hG 4 rfl dL_law_625 ?_
  refine z_iload (pc := 627) hG 1 rfl dL_law_627 ?_
  refine z_ishr (pc := 629) hG dL_law_629 ?_
  refine z_iconst (pc := 630) (v := (1 : Int32)) hG (by decide) dL_law_630 ?_
  refine z_iand (pc := 631) hG dL_law_631 ?_
  by_cases hb : (ls S.1 (S.2.1.2.1 i)).testBit f = true
  · rw [hb, Bool.true_and] at hfb
    by_cases hp : pcn (vIn S.1 (S.2.1.2.1 i) (ls S.1 (S.2.1.2.1 i)) f) = 1
    · have hfr : (frc S.1 (S.2.1.2.1 i)).testBit f = true := by rw [hfb, hp]; rfl
      rw [show (((nI (ls S.1 (S.2.1.2.1 i))) >>> ((nI f) &&& 31)) &&& (1 : Int32)) = (nI 1) from bit_y (by omega) (by omega) hb]
      refine z_iconst (pc := 632) (v := (1 : Int32)) hG (by decide) dL_law_632 ?_
      refine z_icmp_ne (pc := 633) (tgt := 649) hG dL_law_633 rfl (fun hbr => False.elim ((fun h => h rfl) hbr)) (fun _ => ?_)
      refine z_iload (pc := 636) hG 0 rfl dL_law_636 ?_
      refine z_statS (pc := 638) (A' := A + 1) (B' := B + 6) (st2 := [.int ((nI (pcn (vIn S.1 (S.2.1.2.1 i) (ls S.1 (S.2.1.2.1 i)) f))))]) (v := some (.int ((nI (pcn (vIn S.1 (S.2.1.2.1 i) (ls S.1 (S.2.1.2.1 i)) f)))))) hG [.int ((nI (vIn S.1 (S.2.1.2.1 i) (ls S.1 (S.2.1.2.1 i)) f)))] [] (q_bits hl0 (zEg_f _ _) hV64) zy_J6_bitCount_0f7a4 w400 w1265 dL_law_638 rfl (Nat.le_of_ble_eq_true rfl) (Nat.le_refl _) rfl (zand rfl (zand rfl (zand rfl (zand rfl (zand rfl (zand rfl (zand (zog_N _ _) (zand rfl (zand (zog_48 _ _) (zand rfl (zand (zo_0 _) (zand (zoks_hi (by decide)) rfl)))))))))))) rfl rfl (Nat.le_of_ble_eq_true rfl) rfl rfl ?_
      refine z_iconst (pc := 641) (v := (1 : Int32)) hG (by decide) dL_law_641 ?_
      refine z_icmp_ne (pc := 642) (tgt := 649) hG dL_law_642 rfl (fun hbr => False.elim ((fun h => h (congrArg nI hp)) hbr)) (fun _ => ?_)
      refine z_iconst (pc := 645) (v := (1 : Int32)) hG (by decide) dL_law_645 ?_
      refine z_goto (pc := 646) (tgt := 650) hG dL_law_646 rfl ?_
      refine z_istore (pc := 650) (ls' := [(13, .int ((1 : Int32))), (12, .int ((nI (vIn S.1 (S.2.1.2.1 i) (ls S.1 (S.2.1.2.1 i)) f)))), (11, .int ((nI f))), (9, .int ((nI (cnt (lsB S.1 (S.2.1.2.1 i)) (2 ^ pn S.1))))), (8, .int v8), (7, .int ((nI (ls S.1 (S.2.1.2.1 i))))), (6, .int ((nI (rmis (S.2.1.2.1 i) (pn S.1))))), (5, .ref (49 + c)), (4, .int ((nI i))), (3, .ref 48), (2, .int ((nI (pn S.1)))), (1, .ref 0), (0, .ref 1041)]) hG [0, 1, 2, 3, 4, 5, 6, 7, 8, 9, 10, 11, 12] (by decide) rfl dL_law_650 ?_
      refine z_iload (pc := 652) hG 1 rfl dL_law_652 ?_
      refine z_if_eq (pc := 654) (tgt := 704) hG dL_law_654 rfl (fun hbr => False.elim ((fun h => nI_neq (by omega) (by decide) hV0 h) hbr)) (fun _ => ?_)
      refine z_iload (pc := 657) hG 0 rfl dL_law_657 ?_
      refine z_aload_n (pc := 659) hG 11 rfl rfl dL_law_659 ?_
      refine z_iload (pc := 660) hG 8 rfl dL_law_660 ?_
      refine z_virtS (pc := 662) (A' := A) (B' := B) (st2 := [.int ((nI (frc S.1 (S.2.1.2.1 i)))), .int ((1 : Int32))]) (v := some (.int ((nI (frc S.1 (S.2.1.2.1 i)))))) hG [.int ((nI i))] [.int ((1 : Int32))] zc_X10 (zEo_0 _) (q_forced hl0 (zEg_f _ _) hW.1 hB.p0 hB.2.2) zy_X10_forced ⟨w391, w392⟩ w390 dL_law_662 rfl (Nat.le_of_ble_eq_true rfl) (Nat.le_refl _) (zand rfl rfl) (zand rfl (zand rfl (zand rfl (zand rfl (zand rfl (zand rfl (zand rfl (zand (zog_N _ _) (zand rfl (zand (zog_48 _ _) (zand rfl (zand (zo_0 _) (zand (zoks_hi (by decide)) rfl))))))))))))) rfl rfl (Nat.le_of_ble_eq_true rfl) rfl rfl ?_
      refine z_iload (pc := 665) hG 2 rfl dL_law_665 ?_
      refine z_ishr (pc := 667) hG dL_law_667 ?_
      refine z_iconst (pc := 668) (v := (1 : Int32)) hG (by decide) dL_law_668 ?_
      refine z_iand (pc := 669) hG dL_law_669 ?_
      rw [show (((nI (frc S.1 (S.2.1.2.1 i))) >>> ((nI f) &&& 31)) &&& (1 : Int32)) = (nI 1) from bit_y (by omega) (by omega) hfr]
      refine z_iconst (pc := 670) (v := (1 : Int32)) hG (by decide) dL_law_670 ?_
      refine z_icmp_ne (pc := 671) (tgt := 678) hG dL_law_671 rfl (fun hbr => False.elim ((fun h => h rfl) hbr)) (fun _ => ?_)
      refine z_iconst (pc := 674) (v := (1 : Int32)) hG (by decide) dL_law_674 ?_
      refine z_goto (pc := 675) (tgt := 679) hG dL_law_675 rfl ?_
      refine z_icmp_ne (pc := 679) (tgt := 704) hG dL_law_679 rfl (fun hbr => False.elim ((fun h => h rfl) hbr)) (fun _ => ?_)
      refine z_iload (pc := 682) hG 5 rfl dL_law_682 ?_
      refine z_iload (pc := 684) hG 2 rfl dL_law_684 ?_
      refine z_ishr (pc := 686) hG dL_law_686 ?_
      refine z_iconst (pc := 687) (v := (1 : Int32)) hG (by decide) dL_law_687 ?_
      refine z_iand (pc := 688) hG dL_law_688 ?_
      rw [show (((nI (ls S.1 (S.2.1.2.1 i))) >>> ((nI f) &&& 31)) &&& (1 : Int32)) = (nI 1) from bit_y (by omega) (by omega) hb]
      refine z_if_ne (pc := 689) (tgt := 706) hG dL_law_689 rfl (fun _ => ?_) (fun hbr => False.elim ((fun h => absurd h (by decide)) hbr))
      refine z_iinc (pc := 706) (v := (nI (f + 1))) (ls' := [(11, .int ((nI (f + 1)))), (13, .int ((1 : Int32))), (12, .int ((nI (vIn S.1 (S.2.1.2.1 i) (ls S.1 (S.2.1.2.1 i)) f)))), (9, .int ((nI (cnt (lsB S.1 (S.2.1.2.1 i)) (2 ^ pn S.1))))), (8, .int v8), (7, .int ((nI (ls S.1 (S.2.1.2.1 i))))), (6, .int ((nI (rmis (S.2.1.2.1 i) (pn S.1))))), (5, .ref (49 + c)), (4, .int ((nI i))), (3, .ref 48), (2, .int ((nI (pn S.1)))), (1, .ref 0), (0, .ref 1041)]) hG 2 rfl [0, 1, 2, 3, 4, 5, 6, 7, 8, 9, 10, 11, 12] (nI_1s) (by decide) rfl dL_law_706 ?_
      refine z_goto (pc := 709) (tgt := 602) hG dL_law_709 rfl ?_
      refine z_sub (ls' := [(11, .int (nI (f + 1))), (9, .int (nI (cnt (lsB S.1 (S.2.1.2.1 i)) (2 ^ pn S.1)))), (8, .int v8), (7, .int (nI (ls S.1 (S.2.1.2.1 i)))), (6, .int (nI (rmis (S.2.1.2.1 i) (pn S.1)))), (5, .ref (49 + c)), (4, .int (nI i)), (3, .ref 48), (2, .int (nI (pn S.1))), (1, .ref 0), (0, .ref 1041)]) [0, 3, 4, 5, 6, 7, 8, 9, 10, 11, 12] rfl ?_
      exact kk
    · have hfr : (frc S.1 (S.2.1.2.1 i)).testBit f = false := by rw [hfb]; exact beq_eq_false_iff_ne.mpr hp
      rw [show (((nI (ls S.1 (S.2.1.2.1 i))) >>> ((nI f) &&& 31)) &&& (1 : Int32)) = (nI 1) from bit_y (by omega) (by omega) hb]
      refine z_iconst (pc := 632) (v := (1 : Int32)) hG (by decide) dL_law_632 ?_
      refine z_icmp_ne (pc := 633) (tgt := 649) hG dL_law_633 rfl (fun hbr => False.elim ((fun h => h rfl) hbr)) (fun _ => ?_)
      refine z_iload (pc := 636) hG 0 rfl dL_law_636 ?_
      refine z_statS (pc := 638) (A' := A + 1) (B' := B + 6) (st2 := [.int ((nI (pcn (vIn S.1 (S.2.1.2.1 i) (ls S.1 (S.2.1.2.1 i)) f))))]) (v := some (.int ((nI (pcn (vIn S.1 (S.2.1.2.1 i) (ls S.1 (S.2.1.2.1 i)) f)))))) hG [.int ((nI (vIn S.1 (S.2.1.2.1 i) (ls S.1 (S.2.1.2.1 i)) f)))] [] (q_bits hl0 (zEg_f _ _) hV64) zy_J6_bitCount_0f7a4 w400 w1265 dL_law_638 rfl (Nat.le_of_ble_eq_true rfl) (Nat.le_refl _) rfl (zand rfl (zand rfl (zand rfl (zand rfl (zand rfl (zand rfl (zand (zog_N _ _) (zand rfl (zand (zog_48 _ _) (zand rfl (zand (zo_0 _) (zand (zoks_hi (by decide)) rfl)))))))))))) rfl rfl (Nat.le_of_ble_eq_true rfl) rfl rfl ?_
      refine z_iconst (pc := 641) (v := (1 : Int32)) hG (by decide) dL_law_641 ?_
      refine z_icmp_ne (pc := 642) (tgt := 649) hG dL_law_642 rfl (fun _ => ?_) (fun hbr => False.elim ((nI_neq (by omega) (by decide) hp) hbr))
      refine z_iconst (pc := 649) (v := (0 : Int32)) hG (by decide) dL_law_649 ?_
      refine z_istore (pc := 650) (ls' := [(13, .int ((0 : Int32))), (12, .int ((nI (vIn S.1 (S.2.1.2.1 i) (ls S.1 (S.2.1.2.1 i)) f)))), (11, .int ((nI f))), (9, .int ((nI (cnt (lsB S.1 (S.2.1.2.1 i)) (2 ^ pn S.1))))), (8, .int v8), (7, .int ((nI (ls S.1 (S.2.1.2.1 i))))), (6, .int ((nI (rmis (S.2.1.2.1 i) (pn S.1))))), (5, .ref (49 + c)), (4, .int ((nI i))), (3, .ref 48), (2, .int ((nI (pn S.1)))), (1, .ref 0), (0, .ref 1041)]) hG [0, 1, 2, 3, 4, 5, 6, 7, 8, 9, 10, 11, 12] (by decide) rfl dL_law_650 ?_
      refine z_iload (pc := 652) hG 1 rfl dL_law_652 ?_
      refine z_if_eq (pc := 654) (tgt := 704) hG dL_law_654 rfl (fun hbr => False.elim ((fun h => nI_neq (by omega) (by decide) hV0 h) hbr)) (fun _ => ?_)
      refine z_iload (pc := 657) hG 0 rfl dL_law_657 ?_
      refine z_aload_n (pc := 659) hG 11 rfl rfl dL_law_659 ?_
      refine z_iload (pc := 660) hG 8 rfl dL_law_660 ?_
      refine z_virtS (pc := 662) (A' := A) (B' := B) (st2 := [.int ((nI (frc S.1 (S.2.1.2.1 i)))), .int ((0 : Int32))]) (v := some (.int ((nI (frc S.1 (S.2.1.2.1 i)))))) hG [.int ((nI i))] [.int ((0 : Int32))] zc_X10 (zEo_0 _) (q_forced hl0 (zEg_f _ _) hW.1 hB.p0 hB.2.2) zy_X10_forced ⟨w391, w392⟩ w390 dL_law_662 rfl (Nat.le_of_ble_eq_true rfl) (Nat.le_refl _) (zand rfl rfl) (zand rfl (zand rfl (zand rfl (zand rfl (zand rfl (zand rfl (zand rfl (zand (zog_N _ _) (zand rfl (zand (zog_48 _ _) (zand rfl (zand (zo_0 _) (zand (zoks_hi (by decide)) rfl))))))))))))) rfl rfl (Nat.le_of_ble_eq_true rfl) rfl rfl ?_
      refine z_iload (pc := 665) hG 2 rfl dL_law_665 ?_
      refine z_ishr (pc := 667) hG dL_law_667 ?_
      refine z_iconst (pc := 668) (v := (1 : Int32)) hG (by decide) dL_law_668 ?_
      refine z_iand (pc := 669) hG dL_law_669 ?_
      rw [show (((nI (frc S.1 (S.2.1.2.1 i))) >>> ((nI f) &&& 31)) &&& (1 : Int32)) = (nI 0) from bit_n (by omega) (by omega) hfr]
      refine z_iconst (pc := 670) (v := (1 : Int32)) hG (by decide) dL_law_670 ?_
      refine z_icmp_ne (pc := 671) (tgt := 678) hG dL_law_671 rfl (fun _ => ?_) (fun hbr => False.elim ((fun h => absurd h (by decide)) hbr))
      refine z_iconst (pc := 678) (v := (0 : Int32)) hG (by decide) dL_law_678 ?_
      refine z_icmp_ne (pc := 679) (tgt := 704) hG dL_law_679 rfl (fun hbr => False.elim ((fun h => h rfl) hbr)) (fun _ => ?_)
      refine z_iload (pc := 682) hG 5 rfl dL_law_682 ?_
      refine z_iload (pc := 684) hG 2 rfl dL_law_684 ?_
      refine z_ishr (pc := 686) hG dL_law_686 ?_
      refine z_iconst (pc := 687) (v := (1 : Int32)) hG (by decide) dL_law_687 ?_
      refine z_iand (pc := 688) hG dL_law_688 ?_
      rw [show (((nI (ls S.1 (S.2.1.2.1 i))) >>> ((nI f) &&& 31)) &&& (1 : Int32)) = (nI 1) from bit_y (by omega) (by omega) hb]
      refine z_if_ne (pc := 689) (tgt := 706) hG dL_law_689 rfl (fun _ => ?_) (fun hbr => False.elim ((fun h => absurd h (by decide)) hbr))
      refine z_iinc (pc := 706) (v := (nI (f + 1))) (ls' := [(11, .int ((nI (f + 1)))), (13, .int ((0 : Int32))), (12, .int ((nI (vIn S.1 (S.2.1.2.1 i) (ls S.1 (S.2.1.2.1 i)) f)))), (9, .int ((nI (cnt (lsB S.1 (S.2.1.2.1 i)) (2 ^ pn S.1))))), (8, .int v8), (7, .int ((nI (ls S.1 (S.2.1.2.1 i))))), (6, .int ((nI (rmis (S.2.1.2.1 i) (pn S.1))))), (5, .ref (49 + c)), (4, .int ((nI i))), (3, .ref 48), (2, .int ((nI (pn S.1)))), (1, .ref 0), (0, .ref 1041)]) hG 2 rfl [0, 1, 2, 3, 4, 5, 6, 7, 8, 9, 10, 11, 12] (nI_1s) (by decide) rfl dL_law_706 ?_
      refine z_goto (pc := 709) (tgt := 602) hG dL_law_709 rfl ?_
      refine z_sub (ls' := [(11, .int (nI (f + 1))), (9, .int (nI (cnt (lsB S.1 (S.2.1.2.1 i)) (2 ^ pn S.1)))), (8, .int v8), (7, .int (nI (ls S.1 (S.2.1.2.1 i)))), (6, .int (nI (rmis (S.2.1.2.1 i) (pn S.1)))), (5, .ref (49 + c)), (4, .int (nI i)), (3, .ref 48), (2, .int (nI (pn S.1))), (1, .ref 0), (0, .ref 1041)]) [0, 3, 4, 5, 6, 7, 8, 9, 10, 11, 12] rfl ?_
      exact kk
  · have hb : (ls S.1 (S.2.1.2.1 i)).testBit f = false := by
      cases h : (ls S.1 (S.2.1.2.1 i)).testBit f
      · rfl
      · exact absurd h hb
    have hfr : (frc S.1 (S.2.1.2.1 i)).testBit f = false := by rw [hfb, hb]; rfl
    have hra := hwy.2.1 f hf hb
    have hr0 : rv (S.2.1.2.1 i) f ≠ 0 := by omega
    have hVn : vIn S.1 (S.2.1.2.1 i) (ls S.1 (S.2.1.2.1 i)) f = 2 ^ (rv (S.2.1.2.1 i) f - 1) := by
      unfold vIn
      rw [if_pos hcm, if_neg (by rw [hb]; decide)]
    rw [show (((nI (ls S.1 (S.2.1.2.1 i))) >>> ((nI f) &&& 31)) &&& (1 : Int32)) = (nI 0) from bit_n (by omega) (by omega) hb]
    refine z_iconst (pc := 632) (v := (1 : Int32)) hG (by decide) dL_law_632 ?_
    refine z_icmp_ne (pc := 633) (tgt := 649) hG dL_law_633 rfl (fun _ => ?_) (fun hbr => False.elim ((fun h => absurd h (by decide)) hbr))
    refine z_iconst (pc := 649) (v := (0 : Int32)) hG (by decide) dL_law_649 ?_
    refine z_istore (pc := 650) (ls' := [(13, .int ((0 : Int32))), (12, .int ((nI (vIn S.1 (S.2.1.2.1 i) (ls S.1 (S.2.1.2.1 i)) f)))), (11, .int ((nI f))), (9, .int ((nI (cnt (lsB S.1 (S.2.1.2.1 i)) (2 ^ pn S.1))))), (8, .int v8), (7, .int ((nI (ls S.1 (S.2.1.2.1 i))))), (6, .int ((nI (rmis (S.2.1.2.1 i) (pn S.1))))), (5, .ref (49 + c)), (4, .int ((nI i))), (3, .ref 48), (2, .int ((nI (pn S.1)))), (1, .ref 0), (0, .ref 1041)]) hG [0, 1, 2, 3, 4, 5, 6, 7, 8, 9, 10, 11, 12] (by decide) rfl dL_law_650 ?_
    refine z_iload (pc := 652) hG 1 rfl dL_law_652 ?_
    refine z_if_eq (pc := 654) (tgt := 704) hG dL_law_654 rfl (fun hbr => False.elim ((fun h => nI_neq (by omega) (by decide) hV0 h) hbr)) (fun _ => ?_)
    refine z_iload (pc := 657) hG 0 rfl dL_law_657 ?_
    refine z_aload_n (pc := 659) hG 11 rfl rfl dL_law_659 ?_
    refine z_iload (pc := 660) hG 8 rfl dL_law_660 ?_
    refine z_virtS (pc := 662) (A' := A) (B' := B) (st2 := [.int ((nI (frc S.1 (S.2.1.2.1 i)))), .int ((0 : Int32))]) (v := some (.int ((nI (frc S.1 (S.2.1.2.1 i)))))) hG [.int ((nI i))] [.int ((0 : Int32))] zc_X10 (zEo_0 _) (q_forced hl0 (zEg_f _ _) hW.1 hB.p0 hB.2.2) zy_X10_forced ⟨w391, w392⟩ w390 dL_law_662 rfl (Nat.le_of_ble_eq_true rfl) (Nat.le_refl _) (zand rfl rfl) (zand rfl (zand rfl (zand rfl (zand rfl (zand rfl (zand rfl (zand rfl (zand (zog_N _ _) (zand rfl (zand (zog_48 _ _) (zand rfl (zand (zo_0 _) (zand (zoks_hi (by decide)) rfl))))))))))))) rfl rfl (Nat.le_of_ble_eq_true rfl) rfl rfl ?_
    refine z_iload (pc := 665) hG 2 rfl dL_law_665 ?_
    refine z_ishr (pc := 667) hG dL_law_667 ?_
    refine z_iconst (pc := 668) (v := (1 : Int32)) hG (by decide) dL_law_668 ?_
    refine z_iand (pc := 669) hG dL_law_669 ?_
    rw [show (((nI (frc S.1 (S.2.1.2.1 i))) >>> ((nI f) &&& 31)) &&& (1 : Int32)) = (nI 0) from bit_n (by omega) (by omega) hfr]
    refine z_iconst (pc := 670) (v := (1 : Int32)) hG (by decide) dL_law_670 ?_
    refine z_icmp_ne (pc := 671) (tgt := 678) hG dL_law_671 rfl (fun _ => ?_) (fun hbr => False.elim ((fun h => absurd h (by decide)) hbr))
    refine z_iconst (pc := 678) (v := (0 : Int32)) hG (by decide) dL_law_678 ?_
    refine z_icmp_ne (pc := 679) (tgt := 704) hG dL_law_679 rfl (fun hbr => False.elim ((fun h => h rfl) hbr)) (fun _ => ?_)
    refine z_iload (pc := 682) hG 5 rfl dL_law_682 ?_
    refine z_iload (pc := 684) hG 2 rfl dL_law_684 ?_
    refine z_ishr (pc := 686) hG dL_law_686 ?_
    refine z_iconst (pc := 687) (v := (1 : Int32)) hG (by decide) dL_law_687 ?_
    refine z_iand (pc := 688) hG dL_law_688 ?_
    rw [show (((nI (ls S.1 (S.2.1.2.1 i))) >>> ((nI f) &&& 31)) &&& (1 : Int32)) = (nI 0) from bit_n (by omega) (by omega) hb]
    refine z_if_ne (pc := 689) (tgt := 706) hG dL_law_689 rfl (fun hbr => False.elim ((fun h => h rfl) hbr)) (fun _ => ?_)
    refine z_iload (pc := 692) hG 1 rfl dL_law_692 ?_
    refine z_iconst (pc := 694) (v := (1 : Int32)) hG (by decide) dL_law_694 ?_
    refine z_aload (pc := 695) hG 7 rfl dL_law_695 ?_
    refine z_iload (pc := 697) hG 2 rfl dL_law_697 ?_
    refine z_iald (pc := 699) hG (zEg_N _ _) (vp_in_nI hf (by omega)) dL_law_699 ?_
    rw [nI_clamp (show f < 2 ^ 31 by omega), hW.2.2 f hf, nJ_n0 hr0]
    refine z_ishl (pc := 700) hG dL_law_700 ?_
    rw [show ((1 : Int32) <<< ((nI (rv (S.2.1.2.1 i) f - 1)) &&& 31)) = (nI (2 ^ (rv (S.2.1.2.1 i) f - 1))) from nI_shl (by omega)]
    refine z_icmp_eq (pc := 701) (tgt := 706) hG dL_law_701 rfl (fun _ => ?_) (fun hbr => False.elim (hbr (congrArg nI hVn)))
    refine z_iinc (pc := 706) (v := (nI (f + 1))) (ls' := [(11, .int ((nI (f + 1)))), (13, .int ((0 : Int32))), (12, .int ((nI (vIn S.1 (S.2.1.2.1 i) (ls S.1 (S.2.1.2.1 i)) f)))), (9, .int ((nI (cnt (lsB S.1 (S.2.1.2.1 i)) (2 ^ pn S.1))))), (8, .int v8), (7, .int ((nI (ls S.1 (S.2.1.2.1 i))))), (6, .int ((nI (rmis (S.2.1.2.1 i) (pn S.1))))), (5, .ref (49 + c)), (4, .int ((nI i))), (3, .ref 48), (2, .int ((nI (pn S.1)))), (1, .ref 0), (0, .ref 1041)]) hG 2 rfl [0, 1, 2, 3, 4, 5, 6, 7, 8, 9, 10, 11, 12] (nI_1s) (by decide) rfl dL_law_706 ?_
    refine z_goto (pc := 709) (tgt := 602) hG dL_law_709 rfl ?_
    refine z_sub (ls' := [(11, .int (nI (f + 1))), (9, .int (nI (cnt (lsB S.1 (S.2.1.2.1 i)) (2 ^ pn S.1)))), (8, .int v8), (7, .int (nI (ls S.1 (S.2.1.2.1 i)))), (6, .int (nI (rmis (S.2.1.2.1 i) (pn S.1)))), (5, .ref (49 + c)), (4, .int (nI i)), (3, .ref 48), (2, .int (nI (pn S.1))), (1, .ref 0), (0, .ref 1041)]) [0, 3, 4, 5, 6, 7, 8, 9, 10, 11, 12] rfl ?_
    exact kk
theorem vq_all {l : Launch} (hl0 : l.flags = flags0) {S : zSt} {σ : zS} {c i : Nat} (hB : lwB S c i) (hW : lwW S c i σ) {v8 : Int32} (h99 : ls S.1 (S.2.1.2.1 i) ≠ 99) : ∀ (q f : Nat), f + q = pn S.1 → ∀ (A B : Nat) x, zG x cL_law 18 RL ret ∧ zl0 x = l → zK x 70 712 [(9, .int (nI (cnt (lsB S.1 (S.2.1.2.1 i)) (2 ^ pn S.1)))), (8, .int v8), (7, .int (nI (ls S.1 (S.2.1.2.1 i)))), (6, .int (nI (rmis (S.2.1.2.1 i) (pn S.1)))), (5, .ref (49 + c)), (4, .int (nI i)), (3, .ref 48), (2, .int (nI (pn S.1))), (1, .ref 0), (0, .ref 1041)] [] (zD ++ zEg c (pn S.1)) σ A B → zK x 70 602 [(11, .int (nI f)), (9, .int (nI (cnt (lsB S.1 (S.2.1.2.1 i)) (2 ^ pn S.1)))), (8, .int v8), (7, .int (nI (ls S.1 (S.2.1.2.1 i)))), (6, .int (nI (rmis (S.2.1.2.1 i) (pn S.1)))), (5, .ref (49 + c)), (4, .int (nI i)), (3, .ref 48), (2, .int (nI (pn S.1))), (1, .ref 0), (0, .ref 1041)] [] (zD ++ zEg c (pn S.1)) σ (A + 4 * q) (B + 24 * q)
  | 0, f, h, A, B, x, hx, kk => by
    obtain rfl : f = pn S.1 := h
    have hG := hx.1
    refine z_iload (pc := 602) hG 0 rfl dL_law_602 ?_
    refine z_iload_n (pc := 604) hG 8 rfl rfl dL_law_604 ?_
    refine z_icmp_ge (pc := 605) (tgt := 712) hG dL_law_605 rfl (fun _ => ?_) (fun hbr => False.elim (hbr (Int32.le_refl _)))
    refine z_sub (ls' := [(9, .int (nI (cnt (lsB S.1 (S.2.1.2.1 i)) (2 ^ pn S.1)))), (8, .int v8), (7, .int (nI (ls S.1 (S.2.1.2.1 i)))), (6, .int (nI (rmis (S.2.1.2.1 i) (pn S.1)))), (5, .ref (49 + c)), (4, .int (nI i)), (3, .ref 48), (2, .int (nI (pn S.1))), (1, .ref 0), (0, .ref 1041)]) [1, 2, 3, 4, 5, 6, 7, 8, 9, 10] rfl ?_
    exact kk
  | q + 1, f, h, A, B, x, hx, kk => z_wk (A' := A + 4 * q + 4) (B' := B + 24 * q + 24) (by omega) (by omega) (vq_one hl0 hB hW h99 (by omega) _ _ x hx (vq_all hl0 hB hW h99 q (f + 1) (by omega) A B x hx kk))
theorem vq_run {l : Launch} (hl0 : l.flags = flags0) {S : zSt} {σ : zS} {c i : Nat} (hB : lwB S c i) (hW : lwW S c i σ) {v8 : Int32} : ∀ (A B : Nat) x, zG x cL_law 18 RL ret ∧ zl0 x = l → zK x 70 712 [(9, .int (nI (cnt (lsB S.1 (S.2.1.2.1 i)) (2 ^ pn S.1)))), (8, .int v8), (7, .int (sI (ls S.1 (S.2.1.2.1 i)))), (6, .int (nI (rmis (S.2.1.2.1 i) (pn S.1)))), (5, .ref (49 + c)), (4, .int (nI i)), (3, .ref 48), (2, .int (nI (pn S.1))), (1, .ref 0), (0, .ref 1041)] [] (zD ++ zEg c (pn S.1)) σ A B → zK x 70 599 [(9, .int (nI (cnt (lsB S.1 (S.2.1.2.1 i)) (2 ^ pn S.1)))), (8, .int v8), (7, .int (sI (ls S.1 (S.2.1.2.1 i)))), (6, .int (nI (rmis (S.2.1.2.1 i) (pn S.1)))), (5, .ref (49 + c)), (4, .int (nI i)), (3, .ref 48), (2, .int (nI (pn S.1))), (1, .ref 0), (0, .ref 1041)] [] (zD ++ zEg c (pn S.1)) σ (A + 16) (B + 96) := by
  have hn4 := hB.1.2.1
  have hn1 := hB.p0
  rintro A B x ⟨hG, hxl⟩ kk
  subst hxl
  refine z_iconst (pc := 599) (v := (0 : Int32)) hG (by decide) dL_law_599 ?_
  refine z_istore (pc := 600) (ls' := [(11, .int ((0 : Int32))), (9, .int ((nI (cnt (lsB S.1 (S.2.1.2.1 i)) (2 ^ pn S.1))))), (8, .int v8), (7, .int ((sI (ls S.1 (S.2.1.2.1 i))))), (6, .int ((nI (rmis (S.2.1.2.1 i) (pn S.1))))), (5, .ref (49 + c)), (4, .int ((nI i))), (3, .ref 48), (2, .int ((nI (pn S.1)))), (1, .ref 0), (0, .ref 1041)]) hG [0, 1, 2, 3, 4, 5, 6, 7, 8, 9, 10] (by decide) rfl dL_law_600 ?_
  by_cases h99 : ls S.1 (S.2.1.2.1 i) = 99
  · have hneg : sI (ls S.1 (S.2.1.2.1 i)) < 0 := by rw [h99]; decide
    refine z_iload (pc := 602) hG 0 rfl dL_law_602 ?_
    refine z_iload_n (pc := 604) hG 8 rfl rfl dL_law_604 ?_
    refine z_icmp_ge (pc := 605) (tgt := 712) hG dL_law_605 rfl (fun hbr => False.elim ((fun h => nI_nle (by omega) (by omega) h) hbr)) (fun _ => ?_)
    refine z_iload (pc := 608) hG 3 rfl dL_law_608 ?_
    refine z_if_lt (pc := 610) (tgt := 712) hG dL_law_610 rfl (fun _ => ?_) (fun hbr => False.elim (hbr (hneg)))
    refine z_sub (ls' := [(9, .int (nI (cnt (lsB S.1 (S.2.1.2.1 i)) (2 ^ pn S.1)))), (8, .int v8), (7, .int (sI (ls S.1 (S.2.1.2.1 i)))), (6, .int (nI (rmis (S.2.1.2.1 i) (pn S.1)))), (5, .ref (49 + c)), (4, .int (nI i)), (3, .ref 48), (2, .int (nI (pn S.1))), (1, .ref 0), (0, .ref 1041)]) [1, 2, 3, 4, 5, 6, 7, 8, 9, 10] rfl ?_
    exact z_wk (by omega) (by omega) kk
  · have he : sI (ls S.1 (S.2.1.2.1 i)) = nI (ls S.1 (S.2.1.2.1 i)) := if_neg h99
    rw [he] at kk ⊢
    exact z_wk (A' := A + 4 * pn S.1) (B' := B + 24 * pn S.1) (by omega) (by omega) (vq_all hl0 hB hW h99 (pn S.1) 0 (Nat.zero_add _) A B _ ⟨hG, rfl⟩ kk)
