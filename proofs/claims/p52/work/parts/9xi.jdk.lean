/-! ===== the JDK's members under the builder ===== -/
abbrev zSB (j : Nat) : zDs := .inl (10, [(1, j), (0, 0), (0, 0), (0, 0)])
theorem dJ5_isLatin1_aae02_0 : decode cJ5_isLatin1_aae02 0 = .ok (.getstatic 18, 3) := by decide +kernel
theorem dJ5_isLatin1_aae02_3 : decode cJ5_isLatin1_aae02 3 = .ok (.ifCond .eq 14, 3) := by decide +kernel
theorem dJ5_isLatin1_aae02_6 : decode cJ5_isLatin1_aae02 6 = .ok (.aload_n 0, 1) := by decide +kernel
theorem dJ5_isLatin1_aae02_7 : decode cJ5_isLatin1_aae02 7 = .ok (.getfield 22, 3) := by decide +kernel
theorem dJ5_isLatin1_aae02_10 : decode cJ5_isLatin1_aae02 10 = .ok (.ifCond .ne 7, 3) := by decide +kernel
theorem dJ5_isLatin1_aae02_13 : decode cJ5_isLatin1_aae02 13 = .ok (.iconst 1, 1) := by decide +kernel
theorem dJ5_isLatin1_aae02_14 : decode cJ5_isLatin1_aae02 14 = .ok (.goto 4, 3) := by decide +kernel
theorem dJ5_isLatin1_aae02_17 : decode cJ5_isLatin1_aae02 17 = .ok (.iconst 0, 1) := by decide +kernel
theorem dJ5_isLatin1_aae02_18 : decode cJ5_isLatin1_aae02 18 = .ok (.ireturn, 1) := by decide +kernel
theorem c_isLatin1 {l : Launch} (hl0 : l.flags = flags0) {dl : List zDs} {σ : zS} {i j : Nat} (hi : dl[i]? = some (zSB j)) (hc : σ.1 i 1 = 0) : zC l yJ5_isLatin1_aae02 cJ5_isLatin1_aae02 1 (Option.some Jvm.ClassFile.FieldType.boolean) 0 0 0 [.ref i] dl σ (.inl (some (.int 1)), dl, σ) := by
  refine zC_of hl0 rfl (Nat.le_of_ble_eq_true rfl) (fun x hG hxl hk _ => ?_)
  subst hxl
  show zK x 0 0 [(0, .ref i)] [] dl σ 0 0
  refine z_cstr (pc := 0) hG w810 dJ5_isLatin1_aae02_0 ?_
  refine z_if_eq (pc := 3) (tgt := 17) hG dJ5_isLatin1_aae02_3 rfl (fun hbr => False.elim ((fun h => absurd h (by decide)) hbr)) (fun _ => ?_)
  refine z_aload_n (pc := 6) hG 0 rfl rfl dJ5_isLatin1_aae02_6 ?_
  refine z_geti (pc := 7) hG zc_J4 inJ4 hi 1 rfl (by decide) rfl w820 dJ5_isLatin1_aae02_7 ?_
  rw [show (σ.1 i 1) = 0 from hc]
  refine z_if_ne (pc := 10) (tgt := 17) hG dJ5_isLatin1_aae02_10 rfl (fun hbr => False.elim ((fun h => h rfl) hbr)) (fun _ => ?_)
  refine z_iconst (pc := 13) (v := (1 : Int32)) hG (by decide) dJ5_isLatin1_aae02_13 ?_
  refine z_goto (pc := 14) (tgt := 18) hG dJ5_isLatin1_aae02_14 rfl ?_
  exact z_iret (pc := 18) hG rfl rfl hk dJ5_isLatin1_aae02_18
theorem dJ5_length_8abf5_0 : decode cJ5_length_8abf5 0 = .ok (.aload_n 0, 1) := by decide +kernel
theorem dJ5_length_8abf5_1 : decode cJ5_length_8abf5 1 = .ok (.getfield 79, 3) := by decide +kernel
theorem dJ5_length_8abf5_4 : decode cJ5_length_8abf5 4 = .ok (.ireturn, 1) := by decide +kernel
theorem c_len5 {l : Launch} (hl0 : l.flags = flags0) {dl : List zDs} {σ : zS} {i j : Nat} (hi : dl[i]? = some (zSB j)) : zC l yJ5_length_8abf5 cJ5_length_8abf5 1 (Option.some Jvm.ClassFile.FieldType.int) 0 0 0 [.ref i] dl σ (.inl (some (.int (σ.1 i 3))), dl, σ) := by
  refine zC_of hl0 rfl (Nat.le_of_ble_eq_true rfl) (fun x hG hxl hk _ => ?_)
  subst hxl
  show zK x 0 0 [(0, .ref i)] [] dl σ 0 0
  refine z_aload_n (pc := 0) hG 0 rfl rfl dJ5_length_8abf5_0 ?_
  refine z_geti (pc := 1) hG zc_J4 inJ4 hi 3 rfl (by decide) rfl w822 dJ5_length_8abf5_1 ?_
  exact z_iret (pc := 4) hG rfl rfl hk dJ5_length_8abf5_4
theorem dJ8_newLength_cabcc_0 : decode cJ8_newLength_cabcc 0 = .ok (.iload_n 0, 1) := by decide +kernel
theorem dJ8_newLength_cabcc_1 : decode cJ8_newLength_cabcc 1 = .ok (.iload_n 1, 1) := by decide +kernel
theorem dJ8_newLength_cabcc_2 : decode cJ8_newLength_cabcc 2 = .ok (.iload_n 2, 1) := by decide +kernel
theorem dJ8_newLength_cabcc_3 : decode cJ8_newLength_cabcc 3 = .ok (.invokestatic 194, 3) := by decide +kernel
theorem dJ8_newLength_cabcc_6 : decode cJ8_newLength_cabcc 6 = .ok (.iadd, 1) := by decide +kernel
theorem dJ8_newLength_cabcc_7 : decode cJ8_newLength_cabcc 7 = .ok (.istore_n 3, 1) := by decide +kernel
theorem dJ8_newLength_cabcc_8 : decode cJ8_newLength_cabcc 8 = .ok (.iconst 0, 1) := by decide +kernel
theorem dJ8_newLength_cabcc_9 : decode cJ8_newLength_cabcc 9 = .ok (.iload_n 3, 1) := by decide +kernel
theorem dJ8_newLength_cabcc_10 : decode cJ8_newLength_cabcc 10 = .ok (.if_icmp .ge 11, 3) := by decide +kernel
theorem dJ8_newLength_cabcc_13 : decode cJ8_newLength_cabcc 13 = .ok (.iload_n 3, 1) := by decide +kernel
theorem dJ8_newLength_cabcc_14 : decode cJ8_newLength_cabcc 14 = .ok (.ldc 200, 2) := by decide +kernel
theorem dJ8_newLength_cabcc_16 : decode cJ8_newLength_cabcc 16 = .ok (.if_icmp .gt 5, 3) := by decide +kernel
theorem dJ8_newLength_cabcc_19 : decode cJ8_newLength_cabcc 19 = .ok (.iload_n 3, 1) := by decide +kernel
theorem dJ8_newLength_cabcc_20 : decode cJ8_newLength_cabcc 20 = .ok (.ireturn, 1) := by decide +kernel
theorem dJ8_newLength_cabcc_21 : decode cJ8_newLength_cabcc 21 = .ok (.iload_n 0, 1) := by decide +kernel
theorem dJ8_newLength_cabcc_22 : decode cJ8_newLength_cabcc 22 = .ok (.iload_n 1, 1) := by decide +kernel
theorem dJ8_newLength_cabcc_23 : decode cJ8_newLength_cabcc 23 = .ok (.invokestatic 201, 3) := by decide +kernel
theorem dJ8_newLength_cabcc_26 : decode cJ8_newLength_cabcc 26 = .ok (.ireturn, 1) := by decide +kernel
theorem c_newLength {l : Launch} (hl0 : l.flags = flags0) {dl : List zDs} {σ : zS} {u a b r : Int32} (hr : u + (if a < b then b else a) = r) (h0 : ¬ r ≤ 0) (h1 : ¬ (2147483639 : Int32) < r) : zC l yJ8_newLength_cabcc cJ8_newLength_cabcc 4 (Option.some Jvm.ClassFile.FieldType.int) 0 0 0 [.int u, .int a, .int b] dl σ (.inl (some (.int r)), dl, σ) := by
  refine zC_of hl0 rfl (Nat.le_of_ble_eq_true rfl) (fun x hG hxl hk _ => ?_)
  subst hxl
  show zK x 0 0 [(0, .int u), (1, .int a), (2, .int b)] [] dl σ 0 0
  refine z_iload_n (pc := 0) hG 0 rfl rfl dJ8_newLength_cabcc_0 ?_
  refine z_iload_n (pc := 1) hG 1 rfl rfl dJ8_newLength_cabcc_1 ?_
  refine z_iload_n (pc := 2) hG 2 rfl rfl dJ8_newLength_cabcc_2 ?_
  refine z_mmax (pc := 3) hG w860 w861 w16 w862 (Nat.le_of_ble_eq_true rfl) dJ8_newLength_cabcc_3 ?_
  refine z_iadd (pc := 6) hG dJ8_newLength_cabcc_6 ?_
  rw [show (u + (if a < b then b else a)) = r from hr]
  refine z_istore_n (pc := 7) (ls' := [(3, .int r), (0, .int u), (1, .int a), (2, .int b)]) hG [0, 1, 2, 3] rfl (by decide) rfl dJ8_newLength_cabcc_7 ?_
  refine z_iconst (pc := 8) (v := (0 : Int32)) hG (by decide) dJ8_newLength_cabcc_8 ?_
  refine z_iload_n (pc := 9) hG 0 rfl rfl dJ8_newLength_cabcc_9 ?_
  refine z_icmp_ge (pc := 10) (tgt := 21) hG dJ8_newLength_cabcc_10 rfl (fun hbr => False.elim ((fun h => h0 h) hbr)) (fun _ => ?_)
  refine z_iload_n (pc := 13) hG 0 rfl rfl dJ8_newLength_cabcc_13 ?_
  refine z_ldc (pc := 14) hG w863 dJ8_newLength_cabcc_14 ?_
  refine z_icmp_gt (pc := 16) (tgt := 21) hG dJ8_newLength_cabcc_16 rfl (fun hbr => False.elim ((fun h => h1 h) hbr)) (fun _ => ?_)
  refine z_iload_n (pc := 19) hG 0 rfl rfl dJ8_newLength_cabcc_19 ?_
  exact z_iret (pc := 20) hG rfl rfl hk dJ8_newLength_cabcc_20
theorem cap_eq {q m : Nat} (hm : m ≤ 65536) (hq : q < 2 ^ 28) (h : m < q) : nI m + (if nI (q - m) < nI (m + 2) then nI (m + 2) else nI (q - m)) = nI (sb_cap q m) := by
  have hc : sb_cap q m = m + (if q - m < m + 2 then m + 2 else q - m) := by
    unfold sb_cap
    rw [if_neg (by omega)]
    split <;> split <;> omega
  rw [hc]
  by_cases h2 : q - m < m + 2
  · rw [if_pos h2, if_pos (nI_lt h2 (by omega))]
    exact nI_add m (m + 2)
  · rw [if_neg h2, if_neg (nI_nlt (by omega) (by omega))]
    exact nI_add m (q - m)
theorem nI_ne_max {c : Nat} (h : c ≤ 131074) : ¬ nI c = (2147483647 : Int32) := fun z => by
  have := (nI_eq (by omega) (by decide)).mp (show nI c = nI 2147483647 from z)
  omega
theorem nI_neq {a b : Nat} (ha : a < 2 ^ 31) (hb : b < 2 ^ 31) (h : a ≠ b) : ¬ nI a = nI b := fun z => h ((nI_eq ha hb).mp z)
theorem cap_le {q m : Nat} (hm : m ≤ 65536) (hq : q ≤ 65536) : sb_cap q m ≤ 131074 := by
  unfold sb_cap
  split
  · omega
  · split <;> omega
theorem dJ5_newCapacity_0f7a4_0 : decode cJ5_newCapacity_0f7a4 0 = .ok (.aload_n 0, 1) := by decide +kernel
theorem dJ5_newCapacity_0f7a4_1 : decode cJ5_newCapacity_0f7a4 1 = .ok (.getfield 15, 3) := by decide +kernel
theorem dJ5_newCapacity_0f7a4_4 : decode cJ5_newCapacity_0f7a4 4 = .ok (.arraylength, 1) := by decide +kernel
theorem dJ5_newCapacity_0f7a4_5 : decode cJ5_newCapacity_0f7a4 5 = .ok (.istore_n 2, 1) := by decide +kernel
theorem dJ5_newCapacity_0f7a4_6 : decode cJ5_newCapacity_0f7a4 6 = .ok (.iload_n 1, 1) := by decide +kernel
theorem dJ5_newCapacity_0f7a4_7 : decode cJ5_newCapacity_0f7a4 7 = .ok (.aload_n 0, 1) := by decide +kernel
theorem dJ5_newCapacity_0f7a4_8 : decode cJ5_newCapacity_0f7a4 8 = .ok (.getfield 22, 3) := by decide +kernel
theorem dJ5_newCapacity_0f7a4_11 : decode cJ5_newCapacity_0f7a4 11 = .ok (.ishl, 1) := by decide +kernel
theorem dJ5_newCapacity_0f7a4_12 : decode cJ5_newCapacity_0f7a4 12 = .ok (.istore_n 3, 1) := by decide +kernel
theorem dJ5_newCapacity_0f7a4_13 : decode cJ5_newCapacity_0f7a4 13 = .ok (.iload_n 3, 1) := by decide +kernel
theorem dJ5_newCapacity_0f7a4_14 : decode cJ5_newCapacity_0f7a4 14 = .ok (.iload_n 2, 1) := by decide +kernel
theorem dJ5_newCapacity_0f7a4_15 : decode cJ5_newCapacity_0f7a4 15 = .ok (.isub, 1) := by decide +kernel
theorem dJ5_newCapacity_0f7a4_16 : decode cJ5_newCapacity_0f7a4 16 = .ok (.istore 4, 2) := by decide +kernel
theorem dJ5_newCapacity_0f7a4_18 : decode cJ5_newCapacity_0f7a4 18 = .ok (.iload_n 2, 1) := by decide +kernel
theorem dJ5_newCapacity_0f7a4_19 : decode cJ5_newCapacity_0f7a4 19 = .ok (.iload 4, 2) := by decide +kernel
theorem dJ5_newCapacity_0f7a4_21 : decode cJ5_newCapacity_0f7a4 21 = .ok (.iload_n 2, 1) := by decide +kernel
theorem dJ5_newCapacity_0f7a4_22 : decode cJ5_newCapacity_0f7a4 22 = .ok (.iconst 2, 1) := by decide +kernel
theorem dJ5_newCapacity_0f7a4_23 : decode cJ5_newCapacity_0f7a4 23 = .ok (.aload_n 0, 1) := by decide +kernel
theorem dJ5_newCapacity_0f7a4_24 : decode cJ5_newCapacity_0f7a4 24 = .ok (.getfield 22, 3) := by decide +kernel
theorem dJ5_newCapacity_0f7a4_27 : decode cJ5_newCapacity_0f7a4 27 = .ok (.ishl, 1) := by decide +kernel
theorem dJ5_newCapacity_0f7a4_28 : decode cJ5_newCapacity_0f7a4 28 = .ok (.iadd, 1) := by decide +kernel
theorem dJ5_newCapacity_0f7a4_29 : decode cJ5_newCapacity_0f7a4 29 = .ok (.invokestatic 114, 3) := by decide +kernel
theorem dJ5_newCapacity_0f7a4_32 : decode cJ5_newCapacity_0f7a4 32 = .ok (.istore 5, 2) := by decide +kernel
theorem dJ5_newCapacity_0f7a4_34 : decode cJ5_newCapacity_0f7a4 34 = .ok (.iload 5, 2) := by decide +kernel
theorem dJ5_newCapacity_0f7a4_36 : decode cJ5_newCapacity_0f7a4 36 = .ok (.ldc 39, 2) := by decide +kernel
theorem dJ5_newCapacity_0f7a4_38 : decode cJ5_newCapacity_0f7a4 38 = .ok (.if_icmp .ne 13, 3) := by decide +kernel
theorem dJ5_newCapacity_0f7a4_41 : decode cJ5_newCapacity_0f7a4 41 = .ok (.new 120, 3) := by decide +kernel
theorem dJ5_newCapacity_0f7a4_44 : decode cJ5_newCapacity_0f7a4 44 = .ok (.dup, 1) := by decide +kernel
theorem dJ5_newCapacity_0f7a4_45 : decode cJ5_newCapacity_0f7a4 45 = .ok (.ldc 122, 2) := by decide +kernel
theorem dJ5_newCapacity_0f7a4_47 : decode cJ5_newCapacity_0f7a4 47 = .ok (.invokespecial 124, 3) := by decide +kernel
theorem dJ5_newCapacity_0f7a4_50 : decode cJ5_newCapacity_0f7a4 50 = .ok (.athrow, 1) := by decide +kernel
theorem dJ5_newCapacity_0f7a4_51 : decode cJ5_newCapacity_0f7a4 51 = .ok (.iload 5, 2) := by decide +kernel
theorem dJ5_newCapacity_0f7a4_53 : decode cJ5_newCapacity_0f7a4 53 = .ok (.aload_n 0, 1) := by decide +kernel
theorem dJ5_newCapacity_0f7a4_54 : decode cJ5_newCapacity_0f7a4 54 = .ok (.getfield 22, 3) := by decide +kernel
theorem dJ5_newCapacity_0f7a4_57 : decode cJ5_newCapacity_0f7a4 57 = .ok (.ishr, 1) := by decide +kernel
theorem dJ5_newCapacity_0f7a4_58 : decode cJ5_newCapacity_0f7a4 58 = .ok (.ireturn, 1) := by decide +kernel
theorem c_newCap {l : Launch} (hl0 : l.flags = flags0) {dl : List zDs} {σ : zS} {i j n q : Nat} (hi : dl[i]? = some (zSB j)) (hj : dl[j]? = some (.inr (5, n))) (hc : σ.1 i 1 = 0) (hm : zLn σ j ≤ 65536) (hq : q ≤ 65536) (hlt : zLn σ j < q) (hi27 : i ≠ 27) : zC l yJ5_newCapacity_0f7a4 cJ5_newCapacity_0f7a4 6 (Option.some Jvm.ClassFile.FieldType.int) 1 0 0 [.ref i, .int (nI q)] dl σ (.inl (some (.int (nI (sb_cap q (zLn σ j))))), dl, σ) := by
  have hoi : zoks dl.length (.ref i) = true := zoks_of hi hi27
  refine zC_of hl0 rfl (Nat.le_of_ble_eq_true rfl) (fun x hG hxl hk _ => ?_)
  subst hxl
  show zK x 1 0 [(0, .ref i), (1, .int ((nI q)))] [] dl σ 0 0
  refine z_aload_n (pc := 0) hG 0 rfl rfl dJ5_newCapacity_0f7a4_0 ?_
  refine z_getr (pc := 1) hG zc_J4 inJ4 hi 0 rfl (by decide) rfl w819 dJ5_newCapacity_0f7a4_1 ?_
  refine z_alen5 (pc := 4) hG hj dJ5_newCapacity_0f7a4_4 ?_
  refine z_istore_n (pc := 5) (ls' := [(2, .int ((nI (zLn σ j)))), (0, .ref i), (1, .int ((nI q)))]) hG [0, 1, 2] rfl (by decide) rfl dJ5_newCapacity_0f7a4_5 ?_
  refine z_iload_n (pc := 6) hG 2 rfl rfl dJ5_newCapacity_0f7a4_6 ?_
  refine z_aload_n (pc := 7) hG 1 rfl rfl dJ5_newCapacity_0f7a4_7 ?_
  refine z_geti (pc := 8) hG zc_J4 inJ4 hi 1 rfl (by decide) rfl w820 dJ5_newCapacity_0f7a4_8 ?_
  rw [show (σ.1 i 1) = 0 from hc]
  refine z_ishl (pc := 11) hG dJ5_newCapacity_0f7a4_11 ?_
  rw [show ((nI q) <<< (0 &&& 31)) = (nI q) from sb_shl0 _]
  refine z_istore_n (pc := 12) (ls' := [(3, .int ((nI q))), (2, .int ((nI (zLn σ j)))), (0, .ref i), (1, .int ((nI q)))]) hG [0, 1, 2, 3] rfl (by decide) rfl dJ5_newCapacity_0f7a4_12 ?_
  refine z_iload_n (pc := 13) hG 0 rfl rfl dJ5_newCapacity_0f7a4_13 ?_
  refine z_iload_n (pc := 14) hG 1 rfl rfl dJ5_newCapacity_0f7a4_14 ?_
  refine z_isub (pc := 15) hG dJ5_newCapacity_0f7a4_15 ?_
  rw [show ((nI q) - (nI (zLn σ j))) = (nI (q - zLn σ j)) from pk_sub (Nat.le_of_lt hlt)]
  refine z_istore (pc := 16) (ls' := [(4, .int ((nI (q - zLn σ j)))), (3, .int ((nI q))), (2, .int ((nI (zLn σ j)))), (0, .ref i), (1, .int ((nI q)))]) hG [0, 1, 2, 3, 4] (by decide) rfl dJ5_newCapacity_0f7a4_16 ?_
  refine z_iload_n (pc := 18) hG 2 rfl rfl dJ5_newCapacity_0f7a4_18 ?_
  refine z_iload (pc := 19) hG 0 rfl dJ5_newCapacity_0f7a4_19 ?_
  refine z_iload_n (pc := 21) hG 2 rfl rfl dJ5_newCapacity_0f7a4_21 ?_
  refine z_iconst (pc := 22) (v := (2 : Int32)) hG (by decide) dJ5_newCapacity_0f7a4_22 ?_
  refine z_aload_n (pc := 23) hG 3 rfl rfl dJ5_newCapacity_0f7a4_23 ?_
  refine z_geti (pc := 24) hG zc_J4 inJ4 hi 1 rfl (by decide) rfl w820 dJ5_newCapacity_0f7a4_24 ?_
  rw [show (σ.1 i 1) = 0 from hc]
  refine z_ishl (pc := 27) hG dJ5_newCapacity_0f7a4_27 ?_
  rw [show ((2 : Int32) <<< (0 &&& 31)) = (2 : Int32) from sb_shl0 _]
  refine z_iadd (pc := 28) hG dJ5_newCapacity_0f7a4_28 ?_
  rw [show ((nI (zLn σ j)) + (2 : Int32)) = (nI (zLn σ j + 2)) from nI_add (zLn σ j) 2]
  refine z_statS (pc := 29) (A' := 0) (B' := 0) (st2 := [.int ((nI (sb_cap q (zLn σ j))))]) (v := some (.int ((nI (sb_cap q (zLn σ j)))))) hG [.int ((nI (zLn σ j))), .int ((nI (q - zLn σ j))), .int ((nI (zLn σ j + 2)))] [] (c_newLength hl0 (u := nI (zLn σ j)) (a := nI (q - zLn σ j)) (b := nI (zLn σ j + 2)) (r := nI (sb_cap q (zLn σ j))) (cap_eq hm (by omega) hlt) (nI_nle (by have := sb_cap_ge q (zLn σ j); omega) (by have := cap_le hm hq; omega)) (show ¬ nI 2147483639 < nI (sb_cap q (zLn σ j)) from nI_nlt (by have := cap_le hm hq; omega) (by decide))) zy_J8_newLength_cabcc w858 w857 dJ5_newCapacity_0f7a4_29 rfl (Nat.le_of_ble_eq_true rfl) (Nat.le_refl _) rfl (zand rfl (zand rfl (zand rfl (zand hoi (zand rfl rfl))))) rfl rfl (Nat.le_of_ble_eq_true rfl) rfl rfl ?_
  refine z_istore (pc := 32) (ls' := [(5, .int ((nI (sb_cap q (zLn σ j))))), (4, .int ((nI (q - zLn σ j)))), (3, .int ((nI q))), (2, .int ((nI (zLn σ j)))), (0, .ref i), (1, .int ((nI q)))]) hG [0, 1, 2, 3, 4, 5] (by decide) rfl dJ5_newCapacity_0f7a4_32 ?_
  refine z_iload (pc := 34) hG 0 rfl dJ5_newCapacity_0f7a4_34 ?_
  refine z_ldc (pc := 36) hG w867 dJ5_newCapacity_0f7a4_36 ?_
  refine z_icmp_ne (pc := 38) (tgt := 51) hG dJ5_newCapacity_0f7a4_38 rfl (fun _ => ?_) (fun hbr => False.elim ((nI_ne_max (cap_le hm hq)) hbr))
  refine z_iload (pc := 51) hG 0 rfl dJ5_newCapacity_0f7a4_51 ?_
  refine z_aload_n (pc := 53) hG 4 rfl rfl dJ5_newCapacity_0f7a4_53 ?_
  refine z_geti (pc := 54) hG zc_J4 inJ4 hi 1 rfl (by decide) rfl w820 dJ5_newCapacity_0f7a4_54 ?_
  rw [show (σ.1 i 1) = 0 from hc]
  refine z_ishr (pc := 57) hG dJ5_newCapacity_0f7a4_57 ?_
  rw [show ((nI (sb_cap q (zLn σ j))) >>> (0 &&& 31)) = (nI (sb_cap q (zLn σ j))) from sb_shr0 _]
  exact z_iret (pc := 58) hG rfl rfl hk dJ5_newCapacity_0f7a4_58
theorem zir_s {σ : zS} {i : Nat} {f : Nat → Int32} : (zir σ i f).1 i = f := if_pos rfl
/-- the row's letters copied to a new row N -/
def zcp5 (σ : zS) (N j : Nat) : zS := zcpy (zir σ N (fun _ => 0)) j N 0 0 (nI (zLn σ j))
theorem dJ7_copyOf_9075b_0 : decode cJ7_copyOf_9075b 0 = .ok (.iload_n 1, 1) := by decide +kernel
theorem dJ7_copyOf_9075b_1 : decode cJ7_copyOf_9075b 1 = .ok (.aload_n 0, 1) := by decide +kernel
theorem dJ7_copyOf_9075b_2 : decode cJ7_copyOf_9075b 2 = .ok (.arraylength, 1) := by decide +kernel
theorem dJ7_copyOf_9075b_3 : decode cJ7_copyOf_9075b 3 = .ok (.if_icmp .ne 11, 3) := by decide +kernel
theorem dJ7_copyOf_9075b_6 : decode cJ7_copyOf_9075b 6 = .ok (.aload_n 0, 1) := by decide +kernel
theorem dJ7_copyOf_9075b_7 : decode cJ7_copyOf_9075b 7 = .ok (.invokevirtual 310, 3) := by decide +kernel
theorem dJ7_copyOf_9075b_10 : decode cJ7_copyOf_9075b 10 = .ok (.checkcast 311, 3) := by decide +kernel
theorem dJ7_copyOf_9075b_13 : decode cJ7_copyOf_9075b 13 = .ok (.areturn, 1) := by decide +kernel
theorem dJ7_copyOf_9075b_14 : decode cJ7_copyOf_9075b 14 = .ok (.iload_n 1, 1) := by decide +kernel
theorem dJ7_copyOf_9075b_15 : decode cJ7_copyOf_9075b 15 = .ok (.newarray .byte, 2) := by decide +kernel
theorem dJ7_copyOf_9075b_17 : decode cJ7_copyOf_9075b 17 = .ok (.astore_n 2, 1) := by decide +kernel
theorem dJ7_copyOf_9075b_18 : decode cJ7_copyOf_9075b 18 = .ok (.aload_n 0, 1) := by decide +kernel
theorem dJ7_copyOf_9075b_19 : decode cJ7_copyOf_9075b 19 = .ok (.iconst 0, 1) := by decide +kernel
theorem dJ7_copyOf_9075b_20 : decode cJ7_copyOf_9075b 20 = .ok (.aload_n 2, 1) := by decide +kernel
theorem dJ7_copyOf_9075b_21 : decode cJ7_copyOf_9075b 21 = .ok (.iconst 0, 1) := by decide +kernel
theorem dJ7_copyOf_9075b_22 : decode cJ7_copyOf_9075b 22 = .ok (.aload_n 0, 1) := by decide +kernel
theorem dJ7_copyOf_9075b_23 : decode cJ7_copyOf_9075b 23 = .ok (.arraylength, 1) := by decide +kernel
theorem dJ7_copyOf_9075b_24 : decode cJ7_copyOf_9075b 24 = .ok (.iload_n 1, 1) := by decide +kernel
theorem dJ7_copyOf_9075b_25 : decode cJ7_copyOf_9075b 25 = .ok (.invokestatic 304, 3) := by decide +kernel
theorem dJ7_copyOf_9075b_28 : decode cJ7_copyOf_9075b 28 = .ok (.invokestatic 150, 3) := by decide +kernel
theorem dJ7_copyOf_9075b_31 : decode cJ7_copyOf_9075b 31 = .ok (.aload_n 2, 1) := by decide +kernel
theorem dJ7_copyOf_9075b_32 : decode cJ7_copyOf_9075b 32 = .ok (.areturn, 1) := by decide +kernel
theorem c_copyB {l : Launch} (hl0 : l.flags = flags0) {dl : List zDs} {σ : zS} {j n q : Nat} (hj : dl[j]? = some (.inr (5, n))) (hle : zLn σ j ≤ q) (hqn : ¬ nI q = nI (zLn σ j)) (hq : q ≤ 131074) (h9 : dl.length < 900) (hfr : dl.all (zrokb dl.length) = true) (hnj : zokn dl.length (.ref j) = true) (hfit : zcpb ((zir σ dl.length (fun _ => 0)).1 j) 0 (nI (zLn σ j)) = true) : zC l yJ7_copyOf_9075b cJ7_copyOf_9075b 3 (Option.some (Jvm.ClassFile.FieldType.array Jvm.ClassFile.FieldType.byte)) 1 1 q [.ref j, .int (nI q)] dl σ (.inl (some (.ref dl.length)), dl ++ [.inr (1, q)], zcp5 σ dl.length j) := by
  have hj2 : (dl ++ [(.inr (1, q) : zDs)])[j]? = some (.inr (5, n)) := by rw [List.getElem?_append_left (List.getElem?_eq_some_iff.mp hj).1]; exact hj
  refine zC_of hl0 rfl (Nat.le_of_ble_eq_true rfl) (fun x hG hxl hk _ => ?_)
  subst hxl
  show zK x 1 0 [(0, .ref j), (1, .int ((nI q)))] [] dl σ 1 q
  refine z_iload_n (pc := 0) hG 1 rfl rfl dJ7_copyOf_9075b_0 ?_
  refine z_aload_n (pc := 1) hG 0 rfl rfl dJ7_copyOf_9075b_1 ?_
  refine z_alen5 (pc := 2) hG hj dJ7_copyOf_9075b_2 ?_
  refine z_icmp_ne (pc := 3) (tgt := 14) hG dJ7_copyOf_9075b_3 rfl (fun _ => ?_) (fun hc => False.elim (hqn hc))
  refine z_irr (i := dl.length) (f := fun _ => 0) (Nat.le_refl _) ?_
  refine z_iload_n (pc := 14) hG 1 rfl rfl dJ7_copyOf_9075b_14 ?_
  refine z_newa (pc := 15) (A' := 0) (B' := 0) (atype := .byte) (t := 1) (N := q) (z := (q, .inl (fun _ => 0))) hG wa_byte rfl (fun _ => rfl) rfl (fun _ _ => Iff.rfl) (i := dl.length) rfl h9 hfr (dsc := .inr (1, q)) (fun ad ca => by show (Sum.inl (ca 1, q, Sum.inl ((zir σ dl.length (fun _ => 0)).1 dl.length)) : va_E) = _; rw [zir_s]) (fun _ => rfl) (nI_pos (by omega)) (nI_clamp (by omega)) (by show q * 1 ≤ 536870912; omega) rfl (zand hnj rfl) (dl' := dl ++ [.inr (1, q)]) rfl rfl (Nat.zero_add _).symm dJ7_copyOf_9075b_15 ?_
  refine z_astore_n (pc := 17) (ls' := [(2, .ref dl.length), (0, .ref j), (1, .int (nI q))]) hG [0, 1, 2] rfl (by decide) rfl dJ7_copyOf_9075b_17 ?_
  refine z_aload_n (pc := 18) hG 1 rfl rfl dJ7_copyOf_9075b_18 ?_
  refine z_iconst (pc := 19) (v := (0 : Int32)) hG (by decide) dJ7_copyOf_9075b_19 ?_
  refine z_aload_n (pc := 20) hG 0 rfl rfl dJ7_copyOf_9075b_20 ?_
  refine z_iconst (pc := 21) (v := (0 : Int32)) hG (by decide) dJ7_copyOf_9075b_21 ?_
  refine z_aload_n (pc := 22) hG 1 rfl rfl dJ7_copyOf_9075b_22 ?_
  refine z_alen5 (pc := 23) hG hj2 dJ7_copyOf_9075b_23 ?_
  refine z_iload_n (pc := 24) hG 2 rfl rfl dJ7_copyOf_9075b_24 ?_
  refine z_mmin (pc := 25) hG w181 w182 w16 w183 (Nat.le_of_ble_eq_true rfl) dJ7_copyOf_9075b_25 ?_
  rw [show (if nI q < nI (zLn (zir σ dl.length (fun _ => 0)) j) then nI q else nI (zLn (zir σ dl.length (fun _ => 0)) j)) = nI (zLn σ j) from if_neg (nI_nlt hle (by omega))]
  refine z_copyX (pc := 28) (m0 := zLn σ j) (m1 := q) hG hj2 (by rw [List.getElem?_append_right (Nat.le_refl _), Nat.sub_self]; rfl) (fun _ _ => rfl) (fun _ _ => rfl) (fun _ _ => rfl) w184 w186 w185 w18 (Nat.le_of_ble_eq_true rfl) (decide_eq_true ⟨by decide, by decide, nI_pos (by omega), by rw [nI_clamp (by omega)]; show 0 + zLn σ j ≤ zLn σ j; omega, by rw [nI_clamp (by omega)]; show 0 + zLn σ j ≤ q; omega⟩) hfit dJ7_copyOf_9075b_28 ?_
  refine z_aload_n (pc := 31) hG 0 rfl rfl dJ7_copyOf_9075b_31 ?_
  exact z_aret (pc := 32) hG rfl hk dJ7_copyOf_9075b_32
/-- behind ensureCapacityInternal: the state; N is the number of cells -/
def zens (σ : zS) (N j q : Nat) : zS := if q ≤ zLn σ j then σ else zgr5 (zcp5 σ N j) j N (sb_cap q (zLn σ j))
/-- the builder i with the row j, in any world -/
def sbIn (dl : List zDs) (i j : Nat) : Prop := (dl[i]? = some (zSB j)) ∧ (∃ n, dl[j]? = some (.inr (5, n))) ∧ (zMv j = true) ∧ (zMv i = false) ∧ (i ≠ 27) ∧ (j ≠ 24 ∧ j ≠ 25 ∧ j ≠ 27) ∧ (∀ (m : Nat) (d : zDs), dl[m]? = some d → m ≠ i → zrokb j d = true) ∧ (dl.length < 890) ∧ (∀ N, dl.length ≤ N → N < 890 → dl.all (zrokb N) = true)
theorem sbIn.hi {dl : List zDs} {i j : Nat} (h : sbIn dl i j) : dl[i]? = some (zSB j) := h.1
theorem sbIn.hj {dl : List zDs} {i j : Nat} (h : sbIn dl i j) : ∃ n, dl[j]? = some (.inr (5, n)) := h.2.1
theorem sbIn.mv {dl : List zDs} {i j : Nat} (h : sbIn dl i j) : zMv j = true := h.2.2.1
theorem sbIn.mi {dl : List zDs} {i j : Nat} (h : sbIn dl i j) : zMv i = false := h.2.2.2.1
theorem sbIn.i27 {dl : List zDs} {i j : Nat} (h : sbIn dl i j) : i ≠ 27 := h.2.2.2.2.1
theorem sbIn.j24 {dl : List zDs} {i j : Nat} (h : sbIn dl i j) : j ≠ 24 ∧ j ≠ 25 ∧ j ≠ 27 := h.2.2.2.2.2.1
theorem sbIn.oth {dl : List zDs} {i j : Nat} (h : sbIn dl i j) : ∀ (m : Nat) (d : zDs), dl[m]? = some d → m ≠ i → zrokb j d = true := h.2.2.2.2.2.2.1
theorem sbIn.len {dl : List zDs} {i j : Nat} (h : sbIn dl i j) : dl.length < 890 := h.2.2.2.2.2.2.2.1
theorem sbIn.fr {dl : List zDs} {i j : Nat} (h : sbIn dl i j) : ∀ N, dl.length ≤ N → N < 890 → dl.all (zrokb N) = true := h.2.2.2.2.2.2.2.2
theorem dJ5_ensureCapacityInternal_d00df_0 : decode cJ5_ensureCapacityInternal_d00df 0 = .ok (.aload_n 0, 1) := by decide +kernel
theorem dJ5_ensureCapacityInternal_d00df_1 : decode cJ5_ensureCapacityInternal_d00df 1 = .ok (.getfield 15, 3) := by decide +kernel
theorem dJ5_ensureCapacityInternal_d00df_4 : decode cJ5_ensureCapacityInternal_d00df 4 = .ok (.arraylength, 1) := by decide +kernel
theorem dJ5_ensureCapacityInternal_d00df_5 : decode cJ5_ensureCapacityInternal_d00df 5 = .ok (.aload_n 0, 1) := by decide +kernel
theorem dJ5_ensureCapacityInternal_d00df_6 : decode cJ5_ensureCapacityInternal_d00df 6 = .ok (.getfield 22, 3) := by decide +kernel
theorem dJ5_ensureCapacityInternal_d00df_9 : decode cJ5_ensureCapacityInternal_d00df 9 = .ok (.ishr, 1) := by decide +kernel
theorem dJ5_ensureCapacityInternal_d00df_10 : decode cJ5_ensureCapacityInternal_d00df 10 = .ok (.istore_n 2, 1) := by decide +kernel
theorem dJ5_ensureCapacityInternal_d00df_11 : decode cJ5_ensureCapacityInternal_d00df 11 = .ok (.iload_n 1, 1) := by decide +kernel
theorem dJ5_ensureCapacityInternal_d00df_12 : decode cJ5_ensureCapacityInternal_d00df 12 = .ok (.iload_n 2, 1) := by decide +kernel
theorem dJ5_ensureCapacityInternal_d00df_13 : decode cJ5_ensureCapacityInternal_d00df 13 = .ok (.isub, 1) := by decide +kernel
theorem dJ5_ensureCapacityInternal_d00df_14 : decode cJ5_ensureCapacityInternal_d00df 14 = .ok (.ifCond .le 24, 3) := by decide +kernel
theorem dJ5_ensureCapacityInternal_d00df_17 : decode cJ5_ensureCapacityInternal_d00df 17 = .ok (.aload_n 0, 1) := by decide +kernel
theorem dJ5_ensureCapacityInternal_d00df_18 : decode cJ5_ensureCapacityInternal_d00df 18 = .ok (.aload_n 0, 1) := by decide +kernel
theorem dJ5_ensureCapacityInternal_d00df_19 : decode cJ5_ensureCapacityInternal_d00df 19 = .ok (.getfield 15, 3) := by decide +kernel
theorem dJ5_ensureCapacityInternal_d00df_22 : decode cJ5_ensureCapacityInternal_d00df 22 = .ok (.aload_n 0, 1) := by decide +kernel
theorem dJ5_ensureCapacityInternal_d00df_23 : decode cJ5_ensureCapacityInternal_d00df 23 = .ok (.iload_n 1, 1) := by decide +kernel
theorem dJ5_ensureCapacityInternal_d00df_24 : decode cJ5_ensureCapacityInternal_d00df 24 = .ok (.invokevirtual 104, 3) := by decide +kernel
theorem dJ5_ensureCapacityInternal_d00df_27 : decode cJ5_ensureCapacityInternal_d00df 27 = .ok (.aload_n 0, 1) := by decide +kernel
theorem dJ5_ensureCapacityInternal_d00df_28 : decode cJ5_ensureCapacityInternal_d00df 28 = .ok (.getfield 22, 3) := by decide +kernel
theorem dJ5_ensureCapacityInternal_d00df_31 : decode cJ5_ensureCapacityInternal_d00df 31 = .ok (.ishl, 1) := by decide +kernel
theorem dJ5_ensureCapacityInternal_d00df_32 : decode cJ5_ensureCapacityInternal_d00df 32 = .ok (.invokestatic 108, 3) := by decide +kernel
theorem dJ5_ensureCapacityInternal_d00df_35 : decode cJ5_ensureCapacityInternal_d00df 35 = .ok (.putfield 15, 3) := by decide +kernel
theorem dJ5_ensureCapacityInternal_d00df_38 : decode cJ5_ensureCapacityInternal_d00df 38 = .ok (.return_, 1) := by decide +kernel
theorem c_ensure {l : Launch} (hl0 : l.flags = flags0) {dl : List zDs} {σ : zS} {i j q : Nat} (hS : sbIn dl i j) (hc : σ.1 i 1 = 0) (hm : zLn σ j ≤ 1000) (hcap : sb_cap q (zLn σ j) ≤ 1000) (hfit : zcpb ((zir σ dl.length (fun _ => 0)).1 j) 0 (nI (zLn σ j)) = true) : zCg l yJ5_ensureCapacityInternal_d00df cJ5_ensureCapacityInternal_d00df 3 (Option.none : Option Jvm.ClassFile.FieldType) 2 1 1000 [.ref i, .int (nI q)] dl σ (.inl none, dl, zens σ dl.length j q) := by
  obtain ⟨n, hj⟩ := hS.hj
  have hi := hS.hi
  have hoi : zoks dl.length (.ref i) = true := zoks_of hi hS.i27
  have hoj : zoks dl.length (.ref j) = true := zoks_of hj hS.j24.2.2
  have hok : zok dl.length (.ref i) = true := zok_of hi hS.mi
  have hij : i ≠ j := fun e => by rw [e, hj] at hi; cases hi
  have hle0 := sb_cap_ge q (zLn σ j)
  have e1 : (nI q - nI (zLn σ j)).toInt = (q : Int) - (zLn σ j : Nat) := pk_sub_toInt (by omega) (by omega)
  have hjl := (List.getElem?_eq_some_iff.mp hj).1
  have hil := (List.getElem?_eq_some_iff.mp hi).1
  refine zCg_of hl0 rfl (Nat.le_of_ble_eq_true rfl) (fun x hG hxl hk hns hn0 => ?_)
  subst hxl
  show zK x 2 0 [(0, .ref i), (1, .int ((nI q)))] [] dl σ 1 1000
  refine z_aload_n (pc := 0) hG 0 rfl rfl dJ5_ensureCapacityInternal_d00df_0 ?_
  refine z_getr (pc := 1) hG zc_J4 inJ4 hi 0 rfl (by decide) rfl w819 dJ5_ensureCapacityInternal_d00df_1 ?_
  refine z_alen5 (pc := 4) hG hj dJ5_ensureCapacityInternal_d00df_4 ?_
  refine z_aload_n (pc := 5) hG 0 rfl rfl dJ5_ensureCapacityInternal_d00df_5 ?_
  refine z_geti (pc := 6) hG zc_J4 inJ4 hi 1 rfl (by decide) rfl w820 dJ5_ensureCapacityInternal_d00df_6 ?_
  rw [show (σ.1 i 1) = 0 from hc]
  refine z_ishr (pc := 9) hG dJ5_ensureCapacityInternal_d00df_9 ?_
  rw [show ((nI (zLn σ j)) >>> (0 &&& 31)) = (nI (zLn σ j)) from sb_shr0 _]
  refine z_istore_n (pc := 10) (ls' := [(2, .int ((nI (zLn σ j)))), (0, .ref i), (1, .int ((nI q)))]) hG [0, 1, 2] rfl (by decide) rfl dJ5_ensureCapacityInternal_d00df_10 ?_
  refine z_iload_n (pc := 11) hG 2 rfl rfl dJ5_ensureCapacityInternal_d00df_11 ?_
  refine z_iload_n (pc := 12) hG 0 rfl rfl dJ5_ensureCapacityInternal_d00df_12 ?_
  refine z_isub (pc := 13) hG dJ5_ensureCapacityInternal_d00df_13 ?_
  by_cases hqm : q ≤ zLn σ j
  · rw [zens, if_pos hqm] at hk
    refine z_if_le (pc := 14) (tgt := 38) hG dJ5_ensureCapacityInternal_d00df_14 rfl (fun _ => ?_) (fun hbr => False.elim (hbr (by rw [Int32.le_iff_toInt_le, e1, Int32.toInt_zero]; omega)))
    exact z_vret (pc := 38) hG rfl hk dJ5_ensureCapacityInternal_d00df_38
  · rw [zens, if_neg hqm] at hk
    refine z_if_le (pc := 14) (tgt := 38) hG dJ5_ensureCapacityInternal_d00df_14 rfl (fun hbr => False.elim ((fun h => by rw [Int32.le_iff_toInt_le, e1, Int32.toInt_zero] at h; omega) hbr)) (fun _ => ?_)
    refine z_aload_n (pc := 17) hG 1 rfl rfl dJ5_ensureCapacityInternal_d00df_17 ?_
    refine z_aload_n (pc := 18) hG 1 rfl rfl dJ5_ensureCapacityInternal_d00df_18 ?_
    refine z_getr (pc := 19) hG zc_J4 inJ4 hi 0 rfl (by decide) rfl w819 dJ5_ensureCapacityInternal_d00df_19 ?_
    refine z_aload_n (pc := 22) hG 1 rfl rfl dJ5_ensureCapacityInternal_d00df_22 ?_
    refine z_iload_n (pc := 23) hG 2 rfl rfl dJ5_ensureCapacityInternal_d00df_23 ?_
    refine z_virtS (pc := 24) (A' := 1) (B' := 1000) (st2 := [.int ((nI (sb_cap q (zLn σ j)))), .ref j, .ref i]) (v := some (.int ((nI (sb_cap q (zLn σ j)))))) hG [.int ((nI q))] [.ref j, .ref i] zc_J4 hi (c_newCap hl0 hi hj hc (by omega) (by omega) (by omega) hS.i27) zy_J5_newCapacity_0f7a4 ⟨w855, wq_cap⟩ w853 dJ5_ensureCapacityInternal_d00df_24 rfl (Nat.le_of_ble_eq_true rfl) (Nat.le_refl _) (zand hoj (zand hoi rfl)) (zand rfl (zand hoi (zand rfl rfl))) rfl rfl (Nat.le_of_ble_eq_true rfl) rfl rfl ?_
    refine z_aload_n (pc := 27) hG 1 rfl rfl dJ5_ensureCapacityInternal_d00df_27 ?_
    refine z_geti (pc := 28) hG zc_J4 inJ4 hi 1 rfl (by decide) rfl w820 dJ5_ensureCapacityInternal_d00df_28 ?_
    rw [show (σ.1 i 1) = 0 from hc]
    refine z_ishl (pc := 31) hG dJ5_ensureCapacityInternal_d00df_31 ?_
    rw [show ((nI (sb_cap q (zLn σ j))) <<< (0 &&& 31)) = (nI (sb_cap q (zLn σ j))) from sb_shl0 _]
    refine z_statS (pc := 32) (A' := 0) (B' := 1000 - (sb_cap q (zLn σ j))) (st2 := [.ref dl.length, .ref i]) (v := some (.ref dl.length)) hG [.ref j, .int (nI (sb_cap q (zLn σ j)))] [.ref i] (c_copyB hl0 hj (by omega) (nI_neq (by omega) (by omega) (by omega)) (by omega) (by have := hS.len; omega) (hS.fr _ (Nat.le_refl _) hS.len) (show zokn dl.length (.ref j) = true from bne_iff_ne.mpr (Nat.ne_of_lt hjl)) hfit) zy_J7_copyOf_9075b w869 w868 dJ5_ensureCapacityInternal_d00df_32 rfl (Nat.le_of_ble_eq_true rfl) (by rw [List.length_append]; omega) (zand hoi rfl) (zand rfl (zand hoi (zand rfl rfl))) rfl (by omega) (Nat.le_of_ble_eq_true rfl) rfl rfl ?_
    refine z_putr (pc := 35) hG zc_J4 inJ4 tyJ4 tyJ4_ok nmJ4 (i := i) (fl := [(1, j), (0, 0), (0, 0), (0, 0)]) (q := (1, dl.length)) (by rw [List.getElem?_append_left hil]; exact hi) 0 (by decide) (show 0 < 4 by decide) rfl (fun _ => rfl) w819 rfl (fun _ => rfl) (fun _ => rfl) (dl' := (dl ++ [(Sum.inr (1, (sb_cap q (zLn σ j))) : zDs)]).set i (Sum.inl (10, [(1, j), (0, 0), (0, 0), (0, 0)].set 0 (1, dl.length)))) rfl dJ5_ensureCapacityInternal_d00df_35 ?_
    refine z_conv5 (k := 0) hns (Nat.le_of_eq hn0) rfl hi hj rfl ⟨hS.j24.1, hS.j24.2.1⟩ hS.mv hS.oth (fun k' a b hk hne ha => ?_) (by omega) (zand rfl (zand (bne_iff_ne.mpr hij) (zand rfl rfl))) ?_
    · rcases k' with _ | _ | _ | _ | k'
      · exact (hne rfl).elim
      · cases hk; cases ha
      · cases hk; cases ha
      · cases hk; cases ha
      · cases hk
    exact z_vret (pc := 38) hG rfl hk dJ5_ensureCapacityInternal_d00df_38
/-- the builder i with the row j holds the text t of n letters -/
def sbA (σ : zS) (i j : Nat) (t : Nat → Nat) (n : Nat) : Prop := (σ.1 i 1 = 0) ∧ (σ.1 i 3 = nI n) ∧ (n ≤ zLn σ j) ∧ (zLn σ j ≤ 1000) ∧ (sb_Lat t n (σ.1 j)) ∧ (sb_Fit (σ.1 j))
theorem sbA.c0 {σ : zS} {i j n : Nat} {t : Nat → Nat} (h : sbA σ i j t n) : σ.1 i 1 = 0 := h.1
theorem sbA.cnt {σ : zS} {i j n : Nat} {t : Nat → Nat} (h : sbA σ i j t n) : σ.1 i 3 = nI n := h.2.1
theorem sbA.le {σ : zS} {i j n : Nat} {t : Nat → Nat} (h : sbA σ i j t n) : n ≤ zLn σ j := h.2.2.1
theorem sbA.cap {σ : zS} {i j n : Nat} {t : Nat → Nat} (h : sbA σ i j t n) : zLn σ j ≤ 1000 := h.2.2.2.1
theorem sbA.lat {σ : zS} {i j n : Nat} {t : Nat → Nat} (h : sbA σ i j t n) : sb_Lat t n (σ.1 j) := h.2.2.2.2.1
theorem sbA.fit {σ : zS} {i j n : Nat} {t : Nat → Nat} (h : sbA σ i j t n) : sb_Fit (σ.1 j) := h.2.2.2.2.2
/-- all other cells are as they were -/
def sbO (N i j : Nat) (σ σ' : zS) : Prop := (∀ a, a < N → a ≠ i → a ≠ j → σ'.1 a = σ.1 a ∧ σ'.2.1 a = σ.2.1 a) ∧ σ'.2.2 = σ.2.2
theorem zir_n {σ : zS} {i a : Nat} {f : Nat → Int32} (h : a ≠ i) : (zir σ i f).1 a = σ.1 a := if_neg h
theorem zcp5_n {σ : zS} {N j a : Nat} (h : a ≠ N) : (zcp5 σ N j).1 a = σ.1 a := by
  unfold zcp5 zcpy
  rw [zir_n h, zir_n h]
theorem zcp5_N {σ : zS} {N j : Nat} (hj : j ≠ N) (hm : zLn σ j ≤ 65536) : (zcp5 σ N j).1 N = va_cpy (σ.1 j) (fun _ => 0) 0 0 (zLn σ j) := by
  unfold zcp5
  rw [zcpy_at, zir_n hj, zir_s, nI_clamp (by omega)]
  rfl
theorem zens_fit {σ : zS} {N j : Nat} (hj : j ≠ N) (h : sb_Fit (σ.1 j)) : zcpb ((zir σ N (fun _ => 0)).1 j) 0 (nI (zLn σ j)) = true := by
  rw [zir_n hj]
  exact List.all_eq_true.mpr fun k _ => h _
theorem ens_A {dl : List zDs} {σ : zS} {i j q n : Nat} {t : Nat → Nat} (hS : sbIn dl i j) (hA : sbA σ i j t n) (hq : q ≤ 499) : sbA (zens σ dl.length j q) i j t n ∧ q ≤ zLn (zens σ dl.length j q) j ∧ sbO dl.length i j σ (zens σ dl.length j q) ∧ sb_cap q (zLn σ j) ≤ 1000 := by
  obtain ⟨n0, hj⟩ := hS.hj
  have hi := hS.hi
  have hij : i ≠ j := fun e => by rw [e, hj] at hi; cases hi
  have hjl := (List.getElem?_eq_some_iff.mp hj).1
  have hil := (List.getElem?_eq_some_iff.mp hi).1
  have hcap := hA.cap
  have hle := hA.le
  have hc : sb_cap q (zLn σ j) ≤ 1000 := by
    unfold sb_cap
    split
    · omega
    · split <;> omega
  by_cases hqm : q ≤ zLn σ j
  · rw [zens, if_pos hqm]
    exact ⟨hA, hqm, ⟨fun _ _ _ _ => ⟨rfl, rfl⟩, rfl⟩, hc⟩
  · rw [zens, if_neg hqm]
    have hg := sb_cap_ge q (zLn σ j)
    have hg2 := sb_cap_gem q (zLn σ j)
    have e1 : (zgr5 (zcp5 σ dl.length j) j dl.length (sb_cap q (zLn σ j))).1 j = va_cpy (σ.1 j) (fun _ => 0) 0 0 (zLn σ j) := (if_pos rfl).trans (zcp5_N (by omega) (by omega))
    have e2 : (zgr5 (zcp5 σ dl.length j) j dl.length (sb_cap q (zLn σ j))).1 i = σ.1 i := (if_neg hij).trans (zcp5_n (by omega))
    have e3 : zLn (zgr5 (zcp5 σ dl.length j) j dl.length (sb_cap q (zLn σ j))) j = sb_cap q (zLn σ j) := by
      show ((zgr5 (zcp5 σ dl.length j) j dl.length (sb_cap q (zLn σ j))).2.1 j 0).toNatClampNeg = _
      rw [show (zgr5 (zcp5 σ dl.length j) j dl.length (sb_cap q (zLn σ j))).2.1 j 0 = Int64.ofNat (sb_cap q (zLn σ j)) from if_pos ⟨rfl, rfl⟩]
      exact Int64.toNatClampNeg_ofNat_of_lt (by omega)
    refine ⟨⟨by rw [e2]; exact hA.c0, by rw [e2]; exact hA.cnt, by rw [e3]; omega, by rw [e3]; exact hc, ?_, ?_⟩, by rw [e3]; exact hg, ⟨fun a ha hai haj => ⟨(if_neg haj).trans (zcp5_n (by omega)), ?_⟩, rfl⟩, hc⟩
    · rw [e1]
      exact sb_latKeep hA.lat fun k hk => sb_cpy0 (by omega)
    · rw [e1]
      exact sb_fitC hA.fit sb_fit0
    · funext b
      exact if_neg (fun z => haj z.1)
