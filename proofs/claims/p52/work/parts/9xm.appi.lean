/-! ===== append(int), a digit ===== -/
theorem iinc_m1 {n : Nat} : nI (n + 1) + Int32.ofInt (-1) = nI n := by
  rw [show Int32.ofInt (-1) = (-1 : Int32) from by decide]
  exact sb_m1 (Nat.succ_pos n)
theorem dig_neg : ∀ k, k < 10 → (¬ (-nI k) ≤ (-10 : Int32)) ∧ ((-100 : Int32) < (-nI k)) ∧ (-(-nI k) = nI k) ∧ ((-9 : Int32) ≤ (-nI k)) ∧ True ∧ nI (48 + (nI k).toNatClampNeg % 10) = nI (48 + k) ∧ vp_nar .byte (nI (48 + k)) = sb_b (48 + k) := by decide +kernel
theorem dJ6_stringSize_0f7a4_0 : decode cJ6_stringSize_0f7a4 0 = .ok (.iconst 1, 1) := by decide +kernel
theorem dJ6_stringSize_0f7a4_1 : decode cJ6_stringSize_0f7a4 1 = .ok (.istore_n 1, 1) := by decide +kernel
theorem dJ6_stringSize_0f7a4_2 : decode cJ6_stringSize_0f7a4 2 = .ok (.iload_n 0, 1) := by decide +kernel
theorem dJ6_stringSize_0f7a4_3 : decode cJ6_stringSize_0f7a4 3 = .ok (.ifCond .lt 8, 3) := by decide +kernel
theorem dJ6_stringSize_0f7a4_6 : decode cJ6_stringSize_0f7a4 6 = .ok (.iconst 0, 1) := by decide +kernel
theorem dJ6_stringSize_0f7a4_7 : decode cJ6_stringSize_0f7a4 7 = .ok (.istore_n 1, 1) := by decide +kernel
theorem dJ6_stringSize_0f7a4_8 : decode cJ6_stringSize_0f7a4 8 = .ok (.iload_n 0, 1) := by decide +kernel
theorem dJ6_stringSize_0f7a4_9 : decode cJ6_stringSize_0f7a4 9 = .ok (.ineg, 1) := by decide +kernel
theorem dJ6_stringSize_0f7a4_10 : decode cJ6_stringSize_0f7a4 10 = .ok (.istore_n 0, 1) := by decide +kernel
theorem dJ6_stringSize_0f7a4_11 : decode cJ6_stringSize_0f7a4 11 = .ok (.bipush (-10), 2) := by decide +kernel
theorem dJ6_stringSize_0f7a4_13 : decode cJ6_stringSize_0f7a4 13 = .ok (.istore_n 2, 1) := by decide +kernel
theorem dJ6_stringSize_0f7a4_14 : decode cJ6_stringSize_0f7a4 14 = .ok (.iconst 1, 1) := by decide +kernel
theorem dJ6_stringSize_0f7a4_15 : decode cJ6_stringSize_0f7a4 15 = .ok (.istore_n 3, 1) := by decide +kernel
theorem dJ6_stringSize_0f7a4_16 : decode cJ6_stringSize_0f7a4 16 = .ok (.iload_n 3, 1) := by decide +kernel
theorem dJ6_stringSize_0f7a4_17 : decode cJ6_stringSize_0f7a4 17 = .ok (.bipush 10, 2) := by decide +kernel
theorem dJ6_stringSize_0f7a4_19 : decode cJ6_stringSize_0f7a4 19 = .ok (.if_icmp .ge 23, 3) := by decide +kernel
theorem dJ6_stringSize_0f7a4_22 : decode cJ6_stringSize_0f7a4 22 = .ok (.iload_n 0, 1) := by decide +kernel
theorem dJ6_stringSize_0f7a4_23 : decode cJ6_stringSize_0f7a4 23 = .ok (.iload_n 2, 1) := by decide +kernel
theorem dJ6_stringSize_0f7a4_24 : decode cJ6_stringSize_0f7a4 24 = .ok (.if_icmp .le 7, 3) := by decide +kernel
theorem dJ6_stringSize_0f7a4_27 : decode cJ6_stringSize_0f7a4 27 = .ok (.iload_n 3, 1) := by decide +kernel
theorem dJ6_stringSize_0f7a4_28 : decode cJ6_stringSize_0f7a4 28 = .ok (.iload_n 1, 1) := by decide +kernel
theorem dJ6_stringSize_0f7a4_29 : decode cJ6_stringSize_0f7a4 29 = .ok (.iadd, 1) := by decide +kernel
theorem dJ6_stringSize_0f7a4_30 : decode cJ6_stringSize_0f7a4 30 = .ok (.ireturn, 1) := by decide +kernel
theorem dJ6_stringSize_0f7a4_31 : decode cJ6_stringSize_0f7a4 31 = .ok (.bipush 10, 2) := by decide +kernel
theorem dJ6_stringSize_0f7a4_33 : decode cJ6_stringSize_0f7a4 33 = .ok (.iload_n 2, 1) := by decide +kernel
theorem dJ6_stringSize_0f7a4_34 : decode cJ6_stringSize_0f7a4 34 = .ok (.imul, 1) := by decide +kernel
theorem dJ6_stringSize_0f7a4_35 : decode cJ6_stringSize_0f7a4 35 = .ok (.istore_n 2, 1) := by decide +kernel
theorem dJ6_stringSize_0f7a4_36 : decode cJ6_stringSize_0f7a4 36 = .ok (.iinc 3 1, 3) := by decide +kernel
theorem dJ6_stringSize_0f7a4_39 : decode cJ6_stringSize_0f7a4 39 = .ok (.goto (-23), 3) := by decide +kernel
theorem dJ6_stringSize_0f7a4_42 : decode cJ6_stringSize_0f7a4 42 = .ok (.bipush 10, 2) := by decide +kernel
theorem dJ6_stringSize_0f7a4_44 : decode cJ6_stringSize_0f7a4 44 = .ok (.iload_n 1, 1) := by decide +kernel
theorem dJ6_stringSize_0f7a4_45 : decode cJ6_stringSize_0f7a4 45 = .ok (.iadd, 1) := by decide +kernel
theorem dJ6_stringSize_0f7a4_46 : decode cJ6_stringSize_0f7a4 46 = .ok (.ireturn, 1) := by decide +kernel
theorem c_ssz {l : Launch} (hl0 : l.flags = flags0) {dl : List zDs} {σ : zS} {k : Nat} (hk9 : k < 10) : zC l yJ6_stringSize_0f7a4 cJ6_stringSize_0f7a4 4 (Option.some Jvm.ClassFile.FieldType.int) 0 0 0 [.int (nI k)] dl σ (.inl (some (.int (nI 1))), dl, σ) := by
  refine zC_of hl0 rfl (Nat.le_of_ble_eq_true rfl) (fun x hG hxl hk _ => ?_)
  subst hxl
  show zK x 0 0 [(0, .int ((nI k)))] [] dl σ 0 0
  refine z_iconst (pc := 0) (v := (1 : Int32)) hG (by decide) dJ6_stringSize_0f7a4_0 ?_
  refine z_istore_n (pc := 1) (ls' := [(1, .int ((1 : Int32))), (0, .int ((nI k)))]) hG [0, 1] rfl (by decide) rfl dJ6_stringSize_0f7a4_1 ?_
  refine z_iload_n (pc := 2) hG 1 rfl rfl dJ6_stringSize_0f7a4_2 ?_
  refine z_if_lt (pc := 3) (tgt := 11) hG dJ6_stringSize_0f7a4_3 rfl (fun hbr => False.elim ((fun h => nI_pos (by omega) h) hbr)) (fun _ => ?_)
  refine z_iconst (pc := 6) (v := (0 : Int32)) hG (by decide) dJ6_stringSize_0f7a4_6 ?_
  refine z_istore_n (pc := 7) (ls' := [(1, .int ((0 : Int32))), (0, .int ((nI k)))]) hG [0, 1] rfl (by decide) rfl dJ6_stringSize_0f7a4_7 ?_
  refine z_iload_n (pc := 8) hG 1 rfl rfl dJ6_stringSize_0f7a4_8 ?_
  refine z_ineg (pc := 9) hG dJ6_stringSize_0f7a4_9 ?_
  refine z_istore_n (pc := 10) (ls' := [(0, .int ((-(nI k)))), (1, .int ((0 : Int32)))]) hG [0, 1] rfl (by decide) rfl dJ6_stringSize_0f7a4_10 ?_
  refine z_bipush (pc := 11) (v := (-10 : Int32)) hG (by decide) dJ6_stringSize_0f7a4_11 ?_
  refine z_istore_n (pc := 13) (ls' := [(2, .int ((-10 : Int32))), (0, .int ((-(nI k)))), (1, .int ((0 : Int32)))]) hG [0, 1, 2] rfl (by decide) rfl dJ6_stringSize_0f7a4_13 ?_
  refine z_iconst (pc := 14) (v := (1 : Int32)) hG (by decide) dJ6_stringSize_0f7a4_14 ?_
  refine z_istore_n (pc := 15) (ls' := [(3, .int ((1 : Int32))), (2, .int ((-10 : Int32))), (0, .int ((-(nI k)))), (1, .int ((0 : Int32)))]) hG [0, 1, 2, 3] rfl (by decide) rfl dJ6_stringSize_0f7a4_15 ?_
  refine z_iload_n (pc := 16) hG 0 rfl rfl dJ6_stringSize_0f7a4_16 ?_
  refine z_bipush (pc := 17) (v := (10 : Int32)) hG (by decide) dJ6_stringSize_0f7a4_17 ?_
  refine z_icmp_ge (pc := 19) (tgt := 42) hG dJ6_stringSize_0f7a4_19 rfl (fun hbr => False.elim ((fun h => absurd h (by decide)) hbr)) (fun _ => ?_)
  refine z_iload_n (pc := 22) hG 2 rfl rfl dJ6_stringSize_0f7a4_22 ?_
  refine z_iload_n (pc := 23) hG 1 rfl rfl dJ6_stringSize_0f7a4_23 ?_
  refine z_icmp_le (pc := 24) (tgt := 31) hG dJ6_stringSize_0f7a4_24 rfl (fun hbr => False.elim ((fun h => (dig_neg k hk9).1 h) hbr)) (fun _ => ?_)
  refine z_iload_n (pc := 27) hG 0 rfl rfl dJ6_stringSize_0f7a4_27 ?_
  refine z_iload_n (pc := 28) hG 3 rfl rfl dJ6_stringSize_0f7a4_28 ?_
  refine z_iadd (pc := 29) hG dJ6_stringSize_0f7a4_29 ?_
  rw [show ((1 : Int32) + (0 : Int32)) = (nI 1) from by decide]
  exact z_iret (pc := 30) hG rfl rfl hk dJ6_stringSize_0f7a4_30
theorem dJ6_getChars_ba4f3_0 : decode cJ6_getChars_ba4f3 0 = .ok (.iload_n 1, 1) := by decide +kernel
theorem dJ6_getChars_ba4f3_1 : decode cJ6_getChars_ba4f3 1 = .ok (.istore 5, 2) := by decide +kernel
theorem dJ6_getChars_ba4f3_3 : decode cJ6_getChars_ba4f3 3 = .ok (.iload_n 0, 1) := by decide +kernel
theorem dJ6_getChars_ba4f3_4 : decode cJ6_getChars_ba4f3 4 = .ok (.ifCond .ge 7, 3) := by decide +kernel
theorem dJ6_getChars_ba4f3_7 : decode cJ6_getChars_ba4f3 7 = .ok (.iconst 1, 1) := by decide +kernel
theorem dJ6_getChars_ba4f3_8 : decode cJ6_getChars_ba4f3 8 = .ok (.goto 4, 3) := by decide +kernel
theorem dJ6_getChars_ba4f3_11 : decode cJ6_getChars_ba4f3 11 = .ok (.iconst 0, 1) := by decide +kernel
theorem dJ6_getChars_ba4f3_12 : decode cJ6_getChars_ba4f3 12 = .ok (.istore 6, 2) := by decide +kernel
theorem dJ6_getChars_ba4f3_14 : decode cJ6_getChars_ba4f3 14 = .ok (.iload 6, 2) := by decide +kernel
theorem dJ6_getChars_ba4f3_16 : decode cJ6_getChars_ba4f3 16 = .ok (.ifCond .ne 6, 3) := by decide +kernel
theorem dJ6_getChars_ba4f3_19 : decode cJ6_getChars_ba4f3 19 = .ok (.iload_n 0, 1) := by decide +kernel
theorem dJ6_getChars_ba4f3_20 : decode cJ6_getChars_ba4f3 20 = .ok (.ineg, 1) := by decide +kernel
theorem dJ6_getChars_ba4f3_21 : decode cJ6_getChars_ba4f3 21 = .ok (.istore_n 0, 1) := by decide +kernel
theorem dJ6_getChars_ba4f3_22 : decode cJ6_getChars_ba4f3 22 = .ok (.iload_n 0, 1) := by decide +kernel
theorem dJ6_getChars_ba4f3_23 : decode cJ6_getChars_ba4f3 23 = .ok (.bipush (-100), 2) := by decide +kernel
theorem dJ6_getChars_ba4f3_25 : decode cJ6_getChars_ba4f3 25 = .ok (.if_icmp .gt 47, 3) := by decide +kernel
theorem dJ6_getChars_ba4f3_28 : decode cJ6_getChars_ba4f3 28 = .ok (.iload_n 0, 1) := by decide +kernel
theorem dJ6_getChars_ba4f3_29 : decode cJ6_getChars_ba4f3 29 = .ok (.bipush 100, 2) := by decide +kernel
theorem dJ6_getChars_ba4f3_31 : decode cJ6_getChars_ba4f3 31 = .ok (.idiv, 1) := by decide +kernel
theorem dJ6_getChars_ba4f3_32 : decode cJ6_getChars_ba4f3 32 = .ok (.istore_n 3, 1) := by decide +kernel
theorem dJ6_getChars_ba4f3_33 : decode cJ6_getChars_ba4f3 33 = .ok (.iload_n 3, 1) := by decide +kernel
theorem dJ6_getChars_ba4f3_34 : decode cJ6_getChars_ba4f3 34 = .ok (.bipush 100, 2) := by decide +kernel
theorem dJ6_getChars_ba4f3_36 : decode cJ6_getChars_ba4f3 36 = .ok (.imul, 1) := by decide +kernel
theorem dJ6_getChars_ba4f3_37 : decode cJ6_getChars_ba4f3 37 = .ok (.iload_n 0, 1) := by decide +kernel
theorem dJ6_getChars_ba4f3_38 : decode cJ6_getChars_ba4f3 38 = .ok (.isub, 1) := by decide +kernel
theorem dJ6_getChars_ba4f3_39 : decode cJ6_getChars_ba4f3 39 = .ok (.istore 4, 2) := by decide +kernel
theorem dJ6_getChars_ba4f3_41 : decode cJ6_getChars_ba4f3 41 = .ok (.iload_n 3, 1) := by decide +kernel
theorem dJ6_getChars_ba4f3_42 : decode cJ6_getChars_ba4f3 42 = .ok (.istore_n 0, 1) := by decide +kernel
theorem dJ6_getChars_ba4f3_43 : decode cJ6_getChars_ba4f3 43 = .ok (.aload_n 2, 1) := by decide +kernel
theorem dJ6_getChars_ba4f3_44 : decode cJ6_getChars_ba4f3 44 = .ok (.iinc 5 (-1), 3) := by decide +kernel
theorem dJ6_getChars_ba4f3_47 : decode cJ6_getChars_ba4f3 47 = .ok (.iload 5, 2) := by decide +kernel
theorem dJ6_getChars_ba4f3_49 : decode cJ6_getChars_ba4f3 49 = .ok (.getstatic 83, 3) := by decide +kernel
theorem dJ6_getChars_ba4f3_52 : decode cJ6_getChars_ba4f3 52 = .ok (.iload 4, 2) := by decide +kernel
theorem dJ6_getChars_ba4f3_54 : decode cJ6_getChars_ba4f3 54 = .ok (.baload, 1) := by decide +kernel
theorem dJ6_getChars_ba4f3_55 : decode cJ6_getChars_ba4f3 55 = .ok (.bastore, 1) := by decide +kernel
theorem dJ6_getChars_ba4f3_56 : decode cJ6_getChars_ba4f3 56 = .ok (.aload_n 2, 1) := by decide +kernel
theorem dJ6_getChars_ba4f3_57 : decode cJ6_getChars_ba4f3 57 = .ok (.iinc 5 (-1), 3) := by decide +kernel
theorem dJ6_getChars_ba4f3_60 : decode cJ6_getChars_ba4f3 60 = .ok (.iload 5, 2) := by decide +kernel
theorem dJ6_getChars_ba4f3_62 : decode cJ6_getChars_ba4f3 62 = .ok (.getstatic 87, 3) := by decide +kernel
theorem dJ6_getChars_ba4f3_65 : decode cJ6_getChars_ba4f3 65 = .ok (.iload 4, 2) := by decide +kernel
theorem dJ6_getChars_ba4f3_67 : decode cJ6_getChars_ba4f3 67 = .ok (.baload, 1) := by decide +kernel
theorem dJ6_getChars_ba4f3_68 : decode cJ6_getChars_ba4f3 68 = .ok (.bastore, 1) := by decide +kernel
theorem dJ6_getChars_ba4f3_69 : decode cJ6_getChars_ba4f3 69 = .ok (.goto (-47), 3) := by decide +kernel
theorem dJ6_getChars_ba4f3_72 : decode cJ6_getChars_ba4f3 72 = .ok (.aload_n 2, 1) := by decide +kernel
theorem dJ6_getChars_ba4f3_73 : decode cJ6_getChars_ba4f3 73 = .ok (.iinc 5 (-1), 3) := by decide +kernel
theorem dJ6_getChars_ba4f3_76 : decode cJ6_getChars_ba4f3 76 = .ok (.iload 5, 2) := by decide +kernel
theorem dJ6_getChars_ba4f3_78 : decode cJ6_getChars_ba4f3 78 = .ok (.getstatic 83, 3) := by decide +kernel
theorem dJ6_getChars_ba4f3_81 : decode cJ6_getChars_ba4f3 81 = .ok (.iload_n 0, 1) := by decide +kernel
theorem dJ6_getChars_ba4f3_82 : decode cJ6_getChars_ba4f3 82 = .ok (.ineg, 1) := by decide +kernel
theorem dJ6_getChars_ba4f3_83 : decode cJ6_getChars_ba4f3 83 = .ok (.baload, 1) := by decide +kernel
theorem dJ6_getChars_ba4f3_84 : decode cJ6_getChars_ba4f3 84 = .ok (.bastore, 1) := by decide +kernel
theorem dJ6_getChars_ba4f3_85 : decode cJ6_getChars_ba4f3 85 = .ok (.iload_n 0, 1) := by decide +kernel
theorem dJ6_getChars_ba4f3_86 : decode cJ6_getChars_ba4f3 86 = .ok (.bipush (-9), 2) := by decide +kernel
theorem dJ6_getChars_ba4f3_88 : decode cJ6_getChars_ba4f3 88 = .ok (.if_icmp .ge 16, 3) := by decide +kernel
theorem dJ6_getChars_ba4f3_91 : decode cJ6_getChars_ba4f3 91 = .ok (.aload_n 2, 1) := by decide +kernel
theorem dJ6_getChars_ba4f3_92 : decode cJ6_getChars_ba4f3 92 = .ok (.iinc 5 (-1), 3) := by decide +kernel
theorem dJ6_getChars_ba4f3_95 : decode cJ6_getChars_ba4f3 95 = .ok (.iload 5, 2) := by decide +kernel
theorem dJ6_getChars_ba4f3_97 : decode cJ6_getChars_ba4f3 97 = .ok (.getstatic 87, 3) := by decide +kernel
theorem dJ6_getChars_ba4f3_100 : decode cJ6_getChars_ba4f3 100 = .ok (.iload_n 0, 1) := by decide +kernel
theorem dJ6_getChars_ba4f3_101 : decode cJ6_getChars_ba4f3 101 = .ok (.ineg, 1) := by decide +kernel
theorem dJ6_getChars_ba4f3_102 : decode cJ6_getChars_ba4f3 102 = .ok (.baload, 1) := by decide +kernel
theorem dJ6_getChars_ba4f3_103 : decode cJ6_getChars_ba4f3 103 = .ok (.bastore, 1) := by decide +kernel
theorem dJ6_getChars_ba4f3_104 : decode cJ6_getChars_ba4f3 104 = .ok (.iload 6, 2) := by decide +kernel
theorem dJ6_getChars_ba4f3_106 : decode cJ6_getChars_ba4f3 106 = .ok (.ifCond .eq 12, 3) := by decide +kernel
theorem dJ6_getChars_ba4f3_109 : decode cJ6_getChars_ba4f3 109 = .ok (.aload_n 2, 1) := by decide +kernel
theorem dJ6_getChars_ba4f3_110 : decode cJ6_getChars_ba4f3 110 = .ok (.iinc 5 (-1), 3) := by decide +kernel
theorem dJ6_getChars_ba4f3_113 : decode cJ6_getChars_ba4f3 113 = .ok (.iload 5, 2) := by decide +kernel
theorem dJ6_getChars_ba4f3_115 : decode cJ6_getChars_ba4f3 115 = .ok (.bipush 45, 2) := by decide +kernel
theorem dJ6_getChars_ba4f3_117 : decode cJ6_getChars_ba4f3 117 = .ok (.bastore, 1) := by decide +kernel
theorem dJ6_getChars_ba4f3_118 : decode cJ6_getChars_ba4f3 118 = .ok (.iload 5, 2) := by decide +kernel
theorem dJ6_getChars_ba4f3_120 : decode cJ6_getChars_ba4f3 120 = .ok (.ireturn, 1) := by decide +kernel
theorem c_gch {l : Launch} (hl0 : l.flags = flags0) {dl : List zDs} {σ : zS} {j n n0 k : Nat} (hk9 : k < 10) (hj : dl[j]? = some (.inr (5, n0))) (hn : n < zLn σ j) (hm : zLn σ j < 2147483648) : zC l yJ6_getChars_ba4f3 cJ6_getChars_ba4f3 7 (Option.some Jvm.ClassFile.FieldType.int) 0 0 0 [.int (nI k), .int (nI (n + 1)), .ref j] dl σ (.inl (some (.int (nI n))), dl, zi σ j (nI n).toNatClampNeg (vp_nar .byte (nI (48 + k)))) := by
  refine zC_of hl0 rfl (Nat.le_of_ble_eq_true rfl) (fun x hG hxl hk _ => ?_)
  subst hxl
  show zK x 0 0 [(0, .int ((nI k))), (1, .int ((nI (n + 1)))), (2, .ref j)] [] dl σ 0 0
  refine z_iload_n (pc := 0) hG 1 rfl rfl dJ6_getChars_ba4f3_0 ?_
  refine z_istore (pc := 1) (ls' := [(5, .int ((nI (n + 1)))), (0, .int ((nI k))), (1, .int ((nI (n + 1)))), (2, .ref j)]) hG [0, 1, 2, 3] (by decide) rfl dJ6_getChars_ba4f3_1 ?_
  refine z_iload_n (pc := 3) hG 1 rfl rfl dJ6_getChars_ba4f3_3 ?_
  refine z_if_ge (pc := 4) (tgt := 11) hG dJ6_getChars_ba4f3_4 rfl (fun _ => ?_) (fun hbr => False.elim (hbr (Int32.le_iff_toInt_le.mpr (by rw [nI_int (by omega)]; exact Int.natCast_nonneg k))))
  refine z_iconst (pc := 11) (v := (0 : Int32)) hG (by decide) dJ6_getChars_ba4f3_11 ?_
  refine z_istore (pc := 12) (ls' := [(6, .int ((0 : Int32))), (5, .int ((nI (n + 1)))), (0, .int ((nI k))), (1, .int ((nI (n + 1)))), (2, .ref j)]) hG [0, 1, 2, 3, 4] (by decide) rfl dJ6_getChars_ba4f3_12 ?_
  refine z_iload (pc := 14) hG 0 rfl dJ6_getChars_ba4f3_14 ?_
  refine z_if_ne (pc := 16) (tgt := 22) hG dJ6_getChars_ba4f3_16 rfl (fun hbr => False.elim ((fun h => h rfl) hbr)) (fun _ => ?_)
  refine z_iload_n (pc := 19) hG 2 rfl rfl dJ6_getChars_ba4f3_19 ?_
  refine z_ineg (pc := 20) hG dJ6_getChars_ba4f3_20 ?_
  refine z_istore_n (pc := 21) (ls' := [(0, .int ((-(nI k)))), (6, .int ((0 : Int32))), (5, .int ((nI (n + 1)))), (1, .int ((nI (n + 1)))), (2, .ref j)]) hG [0, 1, 2, 3, 4] rfl (by decide) rfl dJ6_getChars_ba4f3_21 ?_
  refine z_iload_n (pc := 22) hG 0 rfl rfl dJ6_getChars_ba4f3_22 ?_
  refine z_bipush (pc := 23) (v := (-100 : Int32)) hG (by decide) dJ6_getChars_ba4f3_23 ?_
  refine z_icmp_gt (pc := 25) (tgt := 72) hG dJ6_getChars_ba4f3_25 rfl (fun _ => ?_) (fun hbr => False.elim (hbr ((dig_neg k hk9).2.1)))
  refine z_aload_n (pc := 72) hG 4 rfl rfl dJ6_getChars_ba4f3_72 ?_
  refine z_iinc (pc := 73) (v := (nI n)) (ls' := [(5, .int ((nI n))), (0, .int ((-(nI k)))), (6, .int ((0 : Int32))), (1, .int ((nI (n + 1)))), (2, .ref j)]) hG 2 rfl [0, 1, 2, 3, 4] (iinc_m1) (by decide) rfl dJ6_getChars_ba4f3_73 ?_
  refine z_iload (pc := 76) hG 0 rfl dJ6_getChars_ba4f3_76 ?_
  refine z_dig (pc := 78) hG w987 dJ6_getChars_ba4f3_78 ?_
  refine z_iload_n (pc := 81) hG 1 rfl rfl dJ6_getChars_ba4f3_81 ?_
  refine z_ineg (pc := 82) hG dJ6_getChars_ba4f3_82 ?_
  rw [show (-(-(nI k))) = (nI k) from (dig_neg k hk9).2.2.1]
  refine z_digat (pc := 83) hG (vp_in_nI (show k < 100 by omega) (by decide)) dJ6_getChars_ba4f3_83 ?_
  rw [show (nI (48 + (nI k).toNatClampNeg % 10)) = (nI (48 + k)) from (dig_neg k hk9).2.2.2.2.2.1]
  refine z_bast5 (pc := 84) hG hj (vp_in_nI hn hm) dJ6_getChars_ba4f3_84 ?_
  refine z_iload_n (pc := 85) hG 1 rfl rfl dJ6_getChars_ba4f3_85 ?_
  refine z_bipush (pc := 86) (v := (-9 : Int32)) hG (by decide) dJ6_getChars_ba4f3_86 ?_
  refine z_icmp_ge (pc := 88) (tgt := 104) hG dJ6_getChars_ba4f3_88 rfl (fun _ => ?_) (fun hbr => False.elim (hbr ((dig_neg k hk9).2.2.2.1)))
  refine z_iload (pc := 104) hG 2 rfl dJ6_getChars_ba4f3_104 ?_
  refine z_if_eq (pc := 106) (tgt := 118) hG dJ6_getChars_ba4f3_106 rfl (fun _ => ?_) (fun hbr => False.elim (hbr (rfl)))
  refine z_iload (pc := 118) hG 0 rfl dJ6_getChars_ba4f3_118 ?_
  exact z_iret (pc := 120) hG rfl rfl hk dJ6_getChars_ba4f3_120
theorem dJ5_append_c97b9_0 : decode cJ5_append_c97b9 0 = .ok (.aload_n 0, 1) := by decide +kernel
theorem dJ5_append_c97b9_1 : decode cJ5_append_c97b9 1 = .ok (.getfield 79, 3) := by decide +kernel
theorem dJ5_append_c97b9_4 : decode cJ5_append_c97b9 4 = .ok (.istore_n 2, 1) := by decide +kernel
theorem dJ5_append_c97b9_5 : decode cJ5_append_c97b9 5 = .ok (.iload_n 2, 1) := by decide +kernel
theorem dJ5_append_c97b9_6 : decode cJ5_append_c97b9 6 = .ok (.iload_n 1, 1) := by decide +kernel
theorem dJ5_append_c97b9_7 : decode cJ5_append_c97b9 7 = .ok (.invokestatic 245, 3) := by decide +kernel
theorem dJ5_append_c97b9_10 : decode cJ5_append_c97b9 10 = .ok (.iadd, 1) := by decide +kernel
theorem dJ5_append_c97b9_11 : decode cJ5_append_c97b9 11 = .ok (.istore_n 3, 1) := by decide +kernel
theorem dJ5_append_c97b9_12 : decode cJ5_append_c97b9 12 = .ok (.aload_n 0, 1) := by decide +kernel
theorem dJ5_append_c97b9_13 : decode cJ5_append_c97b9 13 = .ok (.iload_n 3, 1) := by decide +kernel
theorem dJ5_append_c97b9_14 : decode cJ5_append_c97b9 14 = .ok (.invokevirtual 100, 3) := by decide +kernel
theorem dJ5_append_c97b9_17 : decode cJ5_append_c97b9 17 = .ok (.aload_n 0, 1) := by decide +kernel
theorem dJ5_append_c97b9_18 : decode cJ5_append_c97b9 18 = .ok (.invokevirtual 83, 3) := by decide +kernel
theorem dJ5_append_c97b9_21 : decode cJ5_append_c97b9 21 = .ok (.ifCond .eq 16, 3) := by decide +kernel
theorem dJ5_append_c97b9_24 : decode cJ5_append_c97b9 24 = .ok (.iload_n 1, 1) := by decide +kernel
theorem dJ5_append_c97b9_25 : decode cJ5_append_c97b9 25 = .ok (.iload_n 3, 1) := by decide +kernel
theorem dJ5_append_c97b9_26 : decode cJ5_append_c97b9 26 = .ok (.aload_n 0, 1) := by decide +kernel
theorem dJ5_append_c97b9_27 : decode cJ5_append_c97b9 27 = .ok (.getfield 15, 3) := by decide +kernel
theorem dJ5_append_c97b9_30 : decode cJ5_append_c97b9 30 = .ok (.invokestatic 248, 3) := by decide +kernel
theorem dJ5_append_c97b9_33 : decode cJ5_append_c97b9 33 = .ok (.pop, 1) := by decide +kernel
theorem dJ5_append_c97b9_34 : decode cJ5_append_c97b9 34 = .ok (.goto 14, 3) := by decide +kernel
theorem dJ5_append_c97b9_37 : decode cJ5_append_c97b9 37 = .ok (.iload_n 1, 1) := by decide +kernel
theorem dJ5_append_c97b9_38 : decode cJ5_append_c97b9 38 = .ok (.iload_n 2, 1) := by decide +kernel
theorem dJ5_append_c97b9_39 : decode cJ5_append_c97b9 39 = .ok (.iload_n 3, 1) := by decide +kernel
theorem dJ5_append_c97b9_40 : decode cJ5_append_c97b9 40 = .ok (.aload_n 0, 1) := by decide +kernel
theorem dJ5_append_c97b9_41 : decode cJ5_append_c97b9 41 = .ok (.getfield 15, 3) := by decide +kernel
theorem dJ5_append_c97b9_44 : decode cJ5_append_c97b9 44 = .ok (.invokestatic 251, 3) := by decide +kernel
theorem dJ5_append_c97b9_47 : decode cJ5_append_c97b9 47 = .ok (.pop, 1) := by decide +kernel
theorem dJ5_append_c97b9_48 : decode cJ5_append_c97b9 48 = .ok (.aload_n 0, 1) := by decide +kernel
theorem dJ5_append_c97b9_49 : decode cJ5_append_c97b9 49 = .ok (.iload_n 3, 1) := by decide +kernel
theorem dJ5_append_c97b9_50 : decode cJ5_append_c97b9 50 = .ok (.putfield 79, 3) := by decide +kernel
theorem dJ5_append_c97b9_53 : decode cJ5_append_c97b9 53 = .ok (.aload_n 0, 1) := by decide +kernel
theorem dJ5_append_c97b9_54 : decode cJ5_append_c97b9 54 = .ok (.areturn, 1) := by decide +kernel
theorem c_appI {l : Launch} (hl0 : l.flags = flags0) {dl : List zDs} {σ : zS} {i j n k : Nat} {t : Nat → Nat} (hS : sbIn dl i j) (hA : sbA σ i j t n) (hn : n + 1 ≤ 499) (hk9 : k < 10) : ∃ σ', zCg l yJ5_append_c97b9 cJ5_append_c97b9 4 (Option.some (Jvm.ClassFile.FieldType.object "java/lang/AbstractStringBuilder")) 3 1 1000 [.ref i, .int (nI k)] dl σ (.inl (some (.ref i)), dl, σ') ∧ sbA σ' i j (sb_cat t n (fun _ => 48 + k)) (n + 1) ∧ sbO dl.length i j σ σ' := by
  obtain ⟨n0, hj⟩ := hS.hj
  have hi := hS.hi
  have hoi : zoks dl.length (.ref i) = true := zoks_of hi hS.i27
  have hoj : zoks dl.length (.ref j) = true := zoks_of hj hS.j24.2.2
  have hok : zok dl.length (.ref i) = true := zok_of hi hS.mi
  have hij : i ≠ j := fun e => by rw [e, hj] at hi; cases hi
  have hjl := (List.getElem?_eq_some_iff.mp hj).1
  have hE := ens_A hS hA hn
  have hm : zLn (zens σ dl.length j (n + 1)) j < 2147483648 := by have h9 : zLn (zens σ dl.length j (n + 1)) j ≤ 1000 := hE.1.cap; show zLn (zens σ dl.length j (n + 1)) j < 2147483648; omega
  refine ⟨zi (zi (zens σ dl.length j (n + 1)) j (nI n).toNatClampNeg (vp_nar .byte (nI (48 + k)))) i 3 (nI (n + 1)), ?_, ?_, ?_⟩
  · refine zCg_of hl0 rfl (Nat.le_of_ble_eq_true rfl) (fun x hG hxl hk hns hn0 => ?_)
    subst hxl
    show zK x 3 0 [(0, .ref i), (1, .int ((nI k)))] [] dl σ 1 1000
    refine z_aload_n (pc := 0) hG 0 rfl rfl dJ5_append_c97b9_0 ?_
    refine z_geti (pc := 1) hG zc_J4 inJ4 hi 3 rfl (by decide) rfl w822 dJ5_append_c97b9_1 ?_
    rw [show (σ.1 i 3) = (nI n) from hA.cnt]
    refine z_istore_n (pc := 4) (ls' := [(2, .int ((nI n))), (0, .ref i), (1, .int ((nI k)))]) hG [0, 1, 2] rfl (by decide) rfl dJ5_append_c97b9_4 ?_
    refine z_iload_n (pc := 5) hG 0 rfl rfl dJ5_append_c97b9_5 ?_
    refine z_iload_n (pc := 6) hG 2 rfl rfl dJ5_append_c97b9_6 ?_
    refine z_statS (pc := 7) (A' := 1) (B' := 1000) (st2 := [.int ((nI 1)), .int ((nI n))]) (v := some (.int ((nI 1)))) hG [.int ((nI k))] [.int ((nI n))] (c_ssz hl0 hk9) zy_J6_stringSize_0f7a4 w982 w981 dJ5_append_c97b9_7 rfl (Nat.le_of_ble_eq_true rfl) (Nat.le_refl _) (zand rfl rfl) (zand rfl (zand hoi (zand rfl rfl))) rfl rfl (Nat.le_of_ble_eq_true rfl) rfl rfl ?_
    refine z_iadd (pc := 10) hG dJ5_append_c97b9_10 ?_
    rw [show ((nI n) + (nI 1)) = (nI (n + 1)) from nI_add n 1]
    refine z_istore_n (pc := 11) (ls' := [(3, .int ((nI (n + 1)))), (2, .int ((nI n))), (0, .ref i), (1, .int ((nI k)))]) hG [0, 1, 2, 3] rfl (by decide) rfl dJ5_append_c97b9_11 ?_
    refine z_aload_n (pc := 12) hG 2 rfl rfl dJ5_append_c97b9_12 ?_
    refine z_iload_n (pc := 13) hG 0 rfl rfl dJ5_append_c97b9_13 ?_
    refine z_virtG (pc := 14) (A' := 0) (B' := 0) (st2 := []) (v := none) hG hns [.int ((nI (n + 1)))] [] zc_J4 hi (c_ensure hl0 hS hA.c0 hA.cap hE.2.2.2 (zens_fit (Nat.ne_of_lt hjl) hA.fit)) zy_J5_ensureCapacityInternal_d00df ⟨w851, wq_ens⟩ w849 dJ5_append_c97b9_14 rfl (Nat.le_of_ble_eq_true rfl) (Nat.le_refl _) rfl (zand rfl (zand rfl (zand hok (zand rfl rfl)))) rfl rfl (Nat.le_of_ble_eq_true rfl) rfl rfl ?_
    refine z_aload_n (pc := 17) hG 2 rfl rfl dJ5_append_c97b9_17 ?_
    refine z_virtS (pc := 18) (A' := 0) (B' := 0) (st2 := [.int ((1 : Int32))]) (v := some (.int ((1 : Int32)))) hG [] [] zc_J4 hi (c_isLatin1 hl0 hi hE.1.c0) zy_J5_isLatin1_aae02 ⟨w877, w879⟩ w876 dJ5_append_c97b9_18 rfl (Nat.le_of_ble_eq_true rfl) (Nat.le_refl _) rfl (zand rfl (zand rfl (zand hoi (zand rfl rfl)))) rfl rfl (Nat.le_of_ble_eq_true rfl) rfl rfl ?_
    refine z_if_eq (pc := 21) (tgt := 37) hG dJ5_append_c97b9_21 rfl (fun hbr => False.elim ((fun h => absurd h (by decide)) hbr)) (fun _ => ?_)
    refine z_iload_n (pc := 24) hG 3 rfl rfl dJ5_append_c97b9_24 ?_
    refine z_iload_n (pc := 25) hG 0 rfl rfl dJ5_append_c97b9_25 ?_
    refine z_aload_n (pc := 26) hG 2 rfl rfl dJ5_append_c97b9_26 ?_
    refine z_getr (pc := 27) hG zc_J4 inJ4 hi 0 rfl (by decide) rfl w819 dJ5_append_c97b9_27 ?_
    refine z_statS (pc := 30) (A' := 0) (B' := 0) (st2 := [.int ((nI n))]) (v := some (.int ((nI n)))) hG [.int ((nI k)), .int ((nI (n + 1))), .ref j] [] (c_gch hl0 hk9 hj hE.2.1 hm) zy_J6_getChars_ba4f3 w985 w984 dJ5_append_c97b9_30 rfl (Nat.le_of_ble_eq_true rfl) (Nat.le_refl _) rfl (zand rfl (zand rfl (zand hoi (zand rfl rfl)))) rfl rfl (Nat.le_of_ble_eq_true rfl) rfl rfl ?_
    refine z_pop (pc := 33) hG rfl dJ5_append_c97b9_33 ?_
    refine z_goto (pc := 34) (tgt := 48) hG dJ5_append_c97b9_34 rfl ?_
    refine z_aload_n (pc := 48) hG 2 rfl rfl dJ5_append_c97b9_48 ?_
    refine z_iload_n (pc := 49) hG 0 rfl rfl dJ5_append_c97b9_49 ?_
    refine z_puti (pc := 50) hG zc_J4 inJ4 tyJ4 tyJ4_ok nmJ4 hi 3 rfl (by decide) rfl w822 rfl rfl rfl dJ5_append_c97b9_50 ?_
    refine z_aload_n (pc := 53) hG 2 rfl rfl dJ5_append_c97b9_53 ?_
    exact z_areto (pc := 54) hG rfl hk dJ5_append_c97b9_54
  · have e1 : (zi (zi (zens σ dl.length j (n + 1)) j (nI n).toNatClampNeg (vp_nar .byte (nI (48 + k)))) i 3 (nI (n + 1))).1 i = upd ((zens σ dl.length j (n + 1)).1 i) 3 (nI (n + 1)) := zupd.trans (congrArg (fun z => upd z 3 (nI (n + 1))) (zi_o hij))
    have e2 : (zi (zi (zens σ dl.length j (n + 1)) j (nI n).toNatClampNeg (vp_nar .byte (nI (48 + k)))) i 3 (nI (n + 1))).1 j = upd ((zens σ dl.length j (n + 1)).1 j) n (sb_b (48 + k)) := by
      rw [zi_o (fun z => hij z.symm), zupd, nI_clamp (by omega), (dig_neg k hk9).2.2.2.2.2.2]
    refine ⟨by rw [e1]; exact hE.1.c0, by rw [e1]; rfl, hE.2.1, hE.1.cap, ?_, ?_⟩
    · rw [e2]
      exact sb_latPut hE.1.lat (fun a ha => pk_un (by omega)) (fun a ha => by
        obtain rfl : a = 0 := by omega
        exact ⟨by omega, pk_us⟩)
    · rw [e2]
      exact sb_fitU hE.1.fit (sb_fitB (48 + k))
  · exact ⟨fun a ha hai haj => ⟨((zi_o hai).trans (zi_o haj)).trans (hE.2.2.1.1 a ha hai haj).1, (hE.2.2.1.1 a ha hai haj).2⟩, hE.2.2.1.2⟩
