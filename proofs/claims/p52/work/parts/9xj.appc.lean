/-! ===== append(char) ===== -/
theorem zi_o {σ : zS} {i k a : Nat} {v : Int32} (h : a ≠ i) : (zi σ i k v).1 a = σ.1 a := by
  funext b
  exact if_neg (fun z => h z.1)
theorem dJ1_canEncode_fc78d_0 : decode cJ1_canEncode_fc78d 0 = .ok (.iload_n 0, 1) := by decide +kernel
theorem dJ1_canEncode_fc78d_1 : decode cJ1_canEncode_fc78d 1 = .ok (.sipush 255, 3) := by decide +kernel
theorem dJ1_canEncode_fc78d_4 : decode cJ1_canEncode_fc78d 4 = .ok (.if_icmp .gt 7, 3) := by decide +kernel
theorem dJ1_canEncode_fc78d_7 : decode cJ1_canEncode_fc78d 7 = .ok (.iconst 1, 1) := by decide +kernel
theorem dJ1_canEncode_fc78d_8 : decode cJ1_canEncode_fc78d 8 = .ok (.goto 4, 3) := by decide +kernel
theorem dJ1_canEncode_fc78d_11 : decode cJ1_canEncode_fc78d 11 = .ok (.iconst 0, 1) := by decide +kernel
theorem dJ1_canEncode_fc78d_12 : decode cJ1_canEncode_fc78d 12 = .ok (.ireturn, 1) := by decide +kernel
theorem c_canEnc {l : Launch} (hl0 : l.flags = flags0) {dl : List zDs} {σ : zS} {c : Int32} (hc : ¬ (255 : Int32) < c) : zC l yJ1_canEncode_fc78d cJ1_canEncode_fc78d 1 (Option.some Jvm.ClassFile.FieldType.boolean) 0 0 0 [.int c] dl σ (.inl (some (.int 1)), dl, σ) := by
  refine zC_of hl0 rfl (Nat.le_of_ble_eq_true rfl) (fun x hG hxl hk _ => ?_)
  subst hxl
  show zK x 0 0 [(0, .int c)] [] dl σ 0 0
  refine z_iload_n (pc := 0) hG 0 rfl rfl dJ1_canEncode_fc78d_0 ?_
  refine z_sipush (pc := 1) (v := (255 : Int32)) hG (by decide) dJ1_canEncode_fc78d_1 ?_
  refine z_icmp_gt (pc := 4) (tgt := 11) hG dJ1_canEncode_fc78d_4 rfl (fun hbr => False.elim ((fun h => hc h) hbr)) (fun _ => ?_)
  refine z_iconst (pc := 7) (v := (1 : Int32)) hG (by decide) dJ1_canEncode_fc78d_7 ?_
  refine z_goto (pc := 8) (tgt := 12) hG dJ1_canEncode_fc78d_8 rfl ?_
  exact z_iret (pc := 12) hG rfl rfl hk dJ1_canEncode_fc78d_12
theorem dJ5_append_3fe6f_0 : decode cJ5_append_3fe6f 0 = .ok (.aload_n 0, 1) := by decide +kernel
theorem dJ5_append_3fe6f_1 : decode cJ5_append_3fe6f 1 = .ok (.aload_n 0, 1) := by decide +kernel
theorem dJ5_append_3fe6f_2 : decode cJ5_append_3fe6f 2 = .ok (.getfield 79, 3) := by decide +kernel
theorem dJ5_append_3fe6f_5 : decode cJ5_append_3fe6f 5 = .ok (.iconst 1, 1) := by decide +kernel
theorem dJ5_append_3fe6f_6 : decode cJ5_append_3fe6f 6 = .ok (.iadd, 1) := by decide +kernel
theorem dJ5_append_3fe6f_7 : decode cJ5_append_3fe6f 7 = .ok (.invokevirtual 100, 3) := by decide +kernel
theorem dJ5_append_3fe6f_10 : decode cJ5_append_3fe6f 10 = .ok (.aload_n 0, 1) := by decide +kernel
theorem dJ5_append_3fe6f_11 : decode cJ5_append_3fe6f 11 = .ok (.invokevirtual 83, 3) := by decide +kernel
theorem dJ5_append_3fe6f_14 : decode cJ5_append_3fe6f 14 = .ok (.ifCond .eq 31, 3) := by decide +kernel
theorem dJ5_append_3fe6f_17 : decode cJ5_append_3fe6f 17 = .ok (.iload_n 1, 1) := by decide +kernel
theorem dJ5_append_3fe6f_18 : decode cJ5_append_3fe6f 18 = .ok (.invokestatic 191, 3) := by decide +kernel
theorem dJ5_append_3fe6f_21 : decode cJ5_append_3fe6f 21 = .ok (.ifCond .eq 24, 3) := by decide +kernel
theorem dJ5_append_3fe6f_24 : decode cJ5_append_3fe6f 24 = .ok (.aload_n 0, 1) := by decide +kernel
theorem dJ5_append_3fe6f_25 : decode cJ5_append_3fe6f 25 = .ok (.getfield 15, 3) := by decide +kernel
theorem dJ5_append_3fe6f_28 : decode cJ5_append_3fe6f 28 = .ok (.aload_n 0, 1) := by decide +kernel
theorem dJ5_append_3fe6f_29 : decode cJ5_append_3fe6f 29 = .ok (.dup, 1) := by decide +kernel
theorem dJ5_append_3fe6f_30 : decode cJ5_append_3fe6f 30 = .ok (.getfield 79, 3) := by decide +kernel
theorem dJ5_append_3fe6f_33 : decode cJ5_append_3fe6f 33 = .ok (.dup_x1, 1) := by decide +kernel
theorem dJ5_append_3fe6f_34 : decode cJ5_append_3fe6f 34 = .ok (.iconst 1, 1) := by decide +kernel
theorem dJ5_append_3fe6f_35 : decode cJ5_append_3fe6f 35 = .ok (.iadd, 1) := by decide +kernel
theorem dJ5_append_3fe6f_36 : decode cJ5_append_3fe6f 36 = .ok (.putfield 79, 3) := by decide +kernel
theorem dJ5_append_3fe6f_39 : decode cJ5_append_3fe6f 39 = .ok (.iload_n 1, 1) := by decide +kernel
theorem dJ5_append_3fe6f_40 : decode cJ5_append_3fe6f 40 = .ok (.i2b, 1) := by decide +kernel
theorem dJ5_append_3fe6f_41 : decode cJ5_append_3fe6f 41 = .ok (.bastore, 1) := by decide +kernel
theorem dJ5_append_3fe6f_42 : decode cJ5_append_3fe6f 42 = .ok (.goto 33, 3) := by decide +kernel
theorem dJ5_append_3fe6f_45 : decode cJ5_append_3fe6f 45 = .ok (.aload_n 0, 1) := by decide +kernel
theorem dJ5_append_3fe6f_46 : decode cJ5_append_3fe6f 46 = .ok (.invokevirtual 83, 3) := by decide +kernel
theorem dJ5_append_3fe6f_49 : decode cJ5_append_3fe6f 49 = .ok (.ifCond .eq 7, 3) := by decide +kernel
theorem dJ5_append_3fe6f_52 : decode cJ5_append_3fe6f 52 = .ok (.aload_n 0, 1) := by decide +kernel
theorem dJ5_append_3fe6f_53 : decode cJ5_append_3fe6f 53 = .ok (.invokevirtual 195, 3) := by decide +kernel
theorem dJ5_append_3fe6f_56 : decode cJ5_append_3fe6f 56 = .ok (.aload_n 0, 1) := by decide +kernel
theorem dJ5_append_3fe6f_57 : decode cJ5_append_3fe6f 57 = .ok (.getfield 15, 3) := by decide +kernel
theorem dJ5_append_3fe6f_60 : decode cJ5_append_3fe6f 60 = .ok (.aload_n 0, 1) := by decide +kernel
theorem dJ5_append_3fe6f_61 : decode cJ5_append_3fe6f 61 = .ok (.dup, 1) := by decide +kernel
theorem dJ5_append_3fe6f_62 : decode cJ5_append_3fe6f 62 = .ok (.getfield 79, 3) := by decide +kernel
theorem dJ5_append_3fe6f_65 : decode cJ5_append_3fe6f 65 = .ok (.dup_x1, 1) := by decide +kernel
theorem dJ5_append_3fe6f_66 : decode cJ5_append_3fe6f 66 = .ok (.iconst 1, 1) := by decide +kernel
theorem dJ5_append_3fe6f_67 : decode cJ5_append_3fe6f 67 = .ok (.iadd, 1) := by decide +kernel
theorem dJ5_append_3fe6f_68 : decode cJ5_append_3fe6f 68 = .ok (.putfield 79, 3) := by decide +kernel
theorem dJ5_append_3fe6f_71 : decode cJ5_append_3fe6f 71 = .ok (.iload_n 1, 1) := by decide +kernel
theorem dJ5_append_3fe6f_72 : decode cJ5_append_3fe6f 72 = .ok (.invokestatic 197, 3) := by decide +kernel
theorem dJ5_append_3fe6f_75 : decode cJ5_append_3fe6f 75 = .ok (.aload_n 0, 1) := by decide +kernel
theorem dJ5_append_3fe6f_76 : decode cJ5_append_3fe6f 76 = .ok (.areturn, 1) := by decide +kernel
theorem c_appC {l : Launch} (hl0 : l.flags = flags0) {dl : List zDs} {σ : zS} {i j n k : Nat} {t : Nat → Nat} (hS : sbIn dl i j) (hA : sbA σ i j t n) (hn : n + 1 ≤ 499) (hk7 : k < 256) : ∃ σ', zCg l yJ5_append_3fe6f cJ5_append_3fe6f 2 (Option.some (Jvm.ClassFile.FieldType.object "java/lang/AbstractStringBuilder")) 3 1 1000 [.ref i, .int (nI k)] dl σ (.inl (some (.ref i)), dl, σ') ∧ sbA σ' i j (sb_cat t n (fun _ => k)) (n + 1) ∧ sbO dl.length i j σ σ' := by
  obtain ⟨n0, hj⟩ := hS.hj
  have hi := hS.hi
  have hoi : zoks dl.length (.ref i) = true := zoks_of hi hS.i27
  have hoj : zoks dl.length (.ref j) = true := zoks_of hj hS.j24.2.2
  have hok : zok dl.length (.ref i) = true := zok_of hi hS.mi
  have hij : i ≠ j := fun e => by rw [e, hj] at hi; cases hi
  have hjl := (List.getElem?_eq_some_iff.mp hj).1
  have hE := ens_A hS hA hn
  refine ⟨zi (zi (zens σ dl.length j (n + 1)) i 3 (nI (n + 1))) j (nI n).toNatClampNeg (vp_nar .byte (nI k).toInt8.toInt32), ?_, ?_, ?_⟩
  · refine zCg_of hl0 rfl (Nat.le_of_ble_eq_true rfl) (fun x hG hxl hk hns hn0 => ?_)
    subst hxl
    show zK x 3 0 [(0, .ref i), (1, .int ((nI k)))] [] dl σ 1 1000
    refine z_aload_n (pc := 0) hG 0 rfl rfl dJ5_append_3fe6f_0 ?_
    refine z_aload_n (pc := 1) hG 0 rfl rfl dJ5_append_3fe6f_1 ?_
    refine z_geti (pc := 2) hG zc_J4 inJ4 hi 3 rfl (by decide) rfl w822 dJ5_append_3fe6f_2 ?_
    rw [show (σ.1 i 3) = (nI n) from hA.cnt]
    refine z_iconst (pc := 5) (v := (1 : Int32)) hG (by decide) dJ5_append_3fe6f_5 ?_
    refine z_iadd (pc := 6) hG dJ5_append_3fe6f_6 ?_
    rw [show ((nI n) + (1 : Int32)) = (nI (n + 1)) from nI_add n 1]
    refine z_virtG (pc := 7) (A' := 0) (B' := 0) (st2 := []) (v := none) hG hns [.int ((nI (n + 1)))] [] zc_J4 hi (c_ensure hl0 hS hA.c0 hA.cap hE.2.2.2 (zens_fit (Nat.ne_of_lt hjl) hA.fit)) zy_J5_ensureCapacityInternal_d00df ⟨w851, wq_ens⟩ w849 dJ5_append_3fe6f_7 rfl (Nat.le_of_ble_eq_true rfl) (Nat.le_refl _) rfl (zand hok (zand rfl rfl)) rfl rfl (Nat.le_of_ble_eq_true rfl) rfl rfl ?_
    refine z_aload_n (pc := 10) hG 0 rfl rfl dJ5_append_3fe6f_10 ?_
    refine z_virtS (pc := 11) (A' := 0) (B' := 0) (st2 := [.int ((1 : Int32))]) (v := some (.int ((1 : Int32)))) hG [] [] zc_J4 hi (c_isLatin1 hl0 hi hE.1.c0) zy_J5_isLatin1_aae02 ⟨w877, w879⟩ w876 dJ5_append_3fe6f_11 rfl (Nat.le_of_ble_eq_true rfl) (Nat.le_refl _) rfl (zand hoi (zand rfl rfl)) rfl rfl (Nat.le_of_ble_eq_true rfl) rfl rfl ?_
    refine z_if_eq (pc := 14) (tgt := 45) hG dJ5_append_3fe6f_14 rfl (fun hbr => False.elim ((fun h => absurd h (by decide)) hbr)) (fun _ => ?_)
    refine z_iload_n (pc := 17) hG 1 rfl rfl dJ5_append_3fe6f_17 ?_
    refine z_statS (pc := 18) (A' := 0) (B' := 0) (st2 := [.int ((1 : Int32))]) (v := some (.int ((1 : Int32)))) hG [.int ((nI k))] [] (c_canEnc hl0 (show ¬ nI 255 < nI k from nI_nlt (by omega) (by decide))) zy_J1_canEncode_fc78d w958 w957 dJ5_append_3fe6f_18 rfl (Nat.le_of_ble_eq_true rfl) (Nat.le_refl _) rfl (zand hoi (zand rfl rfl)) rfl rfl (Nat.le_of_ble_eq_true rfl) rfl rfl ?_
    refine z_if_eq (pc := 21) (tgt := 45) hG dJ5_append_3fe6f_21 rfl (fun hbr => False.elim ((fun h => absurd h (by decide)) hbr)) (fun _ => ?_)
    refine z_aload_n (pc := 24) hG 0 rfl rfl dJ5_append_3fe6f_24 ?_
    refine z_getr (pc := 25) hG zc_J4 inJ4 hi 0 rfl (by decide) rfl w819 dJ5_append_3fe6f_25 ?_
    refine z_aload_n (pc := 28) hG 0 rfl rfl dJ5_append_3fe6f_28 ?_
    refine z_dup (pc := 29) hG rfl dJ5_append_3fe6f_29 ?_
    refine z_geti (pc := 30) hG zc_J4 inJ4 hi 3 rfl (by decide) rfl w822 dJ5_append_3fe6f_30 ?_
    rw [show ((zens σ dl.length j (n + 1)).1 i 3) = (nI n) from hE.1.cnt]
    refine z_dup_x1 (pc := 33) hG rfl rfl dJ5_append_3fe6f_33 ?_
    refine z_iconst (pc := 34) (v := (1 : Int32)) hG (by decide) dJ5_append_3fe6f_34 ?_
    refine z_iadd (pc := 35) hG dJ5_append_3fe6f_35 ?_
    rw [show ((nI n) + (1 : Int32)) = (nI (n + 1)) from nI_add n 1]
    refine z_puti (pc := 36) hG zc_J4 inJ4 tyJ4 tyJ4_ok nmJ4 hi 3 rfl (by decide) rfl w822 rfl rfl rfl dJ5_append_3fe6f_36 ?_
    refine z_iload_n (pc := 39) hG 1 rfl rfl dJ5_append_3fe6f_39 ?_
    refine z_i2b (pc := 40) hG dJ5_append_3fe6f_40 ?_
    refine z_bast5 (pc := 41) hG hj (vp_in_nI (show n < zLn (zens σ dl.length j (n + 1)) j from hE.2.1) (by have h9 : zLn (zens σ dl.length j (n + 1)) j ≤ 1000 := hE.1.cap; show zLn (zens σ dl.length j (n + 1)) j < 2 ^ 31; omega)) dJ5_append_3fe6f_41 ?_
    refine z_goto (pc := 42) (tgt := 75) hG dJ5_append_3fe6f_42 rfl ?_
    refine z_aload_n (pc := 75) hG 0 rfl rfl dJ5_append_3fe6f_75 ?_
    exact z_areto (pc := 76) hG rfl hk dJ5_append_3fe6f_76
  · have e1 : (zi (zi (zens σ dl.length j (n + 1)) i 3 (nI (n + 1))) j (nI n).toNatClampNeg (vp_nar .byte (nI k).toInt8.toInt32)).1 i = upd ((zens σ dl.length j (n + 1)).1 i) 3 (nI (n + 1)) := (zi_o hij).trans zupd
    have e2 : (zi (zi (zens σ dl.length j (n + 1)) i 3 (nI (n + 1))) j (nI n).toNatClampNeg (vp_nar .byte (nI k).toInt8.toInt32)).1 j = upd ((zens σ dl.length j (n + 1)).1 j) n (sb_b k) := by
      rw [zupd, zi_o (fun z => hij z.symm), nI_clamp (by omega), pk_vb]
      rfl
    refine ⟨by rw [e1]; exact hE.1.c0, by rw [e1]; rfl, hE.2.1, hE.1.cap, ?_, ?_⟩
    · rw [e2]
      exact sb_latPut hE.1.lat (fun a ha => pk_un (by omega)) (fun a ha => by
        obtain rfl : a = 0 := by omega
        exact ⟨hk7, pk_us⟩)
    · rw [e2]
      exact sb_fitU hE.1.fit (sb_fitB k)
  · exact ⟨fun a ha hai haj => ⟨((zi_o haj).trans (zi_o hai)).trans (hE.2.2.1.1 a ha hai haj).1, (hE.2.2.1.1 a ha hai haj).2⟩, hE.2.2.1.2⟩
