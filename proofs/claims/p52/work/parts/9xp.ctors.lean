/-! ===== new String, new StringBuilder, toString ===== -/
abbrev zStr0 : zDs := .inl (11, [(3, 0), (0, 0), (0, 0), (0, 0)])
abbrev zB0 : zDs := .inl (10, [(3, 0), (0, 0), (0, 0), (0, 0)])
/-- the states agree below N -/
def zLo (N : Nat) (σ σ' : zS) : Prop := (∀ a, a < N → σ'.1 a = σ.1 a ∧ σ'.2.1 a = σ.2.1 a) ∧ σ'.2.2 = σ.2.2
theorem sbA_lo {σ σ' : zS} {N i j n : Nat} {t : Nat → Nat} (h : zLo N σ σ') (hi : i < N) (hj : j < N) (hA : sbA σ i j t n) : sbA σ' i j t n := by
  have h1 := h.1 i hi
  have h2 := h.1 j hj
  have hL : zLn σ' j = zLn σ j := congrArg (fun z => (z 0).toNatClampNeg) h2.2
  exact ⟨by rw [h1.1]; exact hA.c0, by rw [h1.1]; exact hA.cnt, by rw [hL]; exact hA.le, by rw [hL]; exact hA.cap, by rw [h2.1]; exact hA.lat, by rw [h2.1]; exact hA.fit⟩
theorem zLo.tr {N : Nat} {a b c : zS} (h : zLo N a b) (h' : zLo N b c) : zLo N a c := ⟨fun q hq => ⟨(h'.1 q hq).1.trans (h.1 q hq).1, (h'.1 q hq).2.trans (h.1 q hq).2⟩, h'.2.trans h.2⟩
theorem zAg.lo {N M : Nat} {σ σ' : zS} (h : zAg M σ σ') (hN : N ≤ M) : zLo N σ σ' := ⟨fun a ha => h.1 a (by omega), h.2⟩
theorem zi_lo {N M k : Nat} {σ : zS} {v : Int32} (hN : N ≤ M) : zLo N σ (zi σ M k v) := ⟨fun a ha => ⟨zi_o (by omega), rfl⟩, rfl⟩
theorem dJ0_init_db425_0 : decode cJ0_init_db425 0 = .ok (.aload_n 0, 1) := by decide +kernel
theorem dJ0_init_db425_1 : decode cJ0_init_db425 1 = .ok (.invokespecial 1, 3) := by decide +kernel
theorem dJ0_init_db425_4 : decode cJ0_init_db425 4 = .ok (.aload_n 1, 1) := by decide +kernel
theorem dJ0_init_db425_5 : decode cJ0_init_db425 5 = .ok (.invokevirtual 552, 3) := by decide +kernel
theorem dJ0_init_db425_8 : decode cJ0_init_db425 8 = .ok (.astore_n 3, 1) := by decide +kernel
theorem dJ0_init_db425_9 : decode cJ0_init_db425 9 = .ok (.aload_n 1, 1) := by decide +kernel
theorem dJ0_init_db425_10 : decode cJ0_init_db425 10 = .ok (.invokevirtual 549, 3) := by decide +kernel
theorem dJ0_init_db425_13 : decode cJ0_init_db425 13 = .ok (.istore 4, 2) := by decide +kernel
theorem dJ0_init_db425_15 : decode cJ0_init_db425 15 = .ok (.aload_n 1, 1) := by decide +kernel
theorem dJ0_init_db425_16 : decode cJ0_init_db425 16 = .ok (.invokevirtual 1047, 3) := by decide +kernel
theorem dJ0_init_db425_19 : decode cJ0_init_db425 19 = .ok (.ifCond .eq 22, 3) := by decide +kernel
theorem dJ0_init_db425_22 : decode cJ0_init_db425 22 = .ok (.aload_n 0, 1) := by decide +kernel
theorem dJ0_init_db425_23 : decode cJ0_init_db425 23 = .ok (.iconst 0, 1) := by decide +kernel
theorem dJ0_init_db425_24 : decode cJ0_init_db425 24 = .ok (.putfield 15, 3) := by decide +kernel
theorem dJ0_init_db425_27 : decode cJ0_init_db425 27 = .ok (.aload_n 0, 1) := by decide +kernel
theorem dJ0_init_db425_28 : decode cJ0_init_db425 28 = .ok (.aload_n 3, 1) := by decide +kernel
theorem dJ0_init_db425_29 : decode cJ0_init_db425 29 = .ok (.iconst 0, 1) := by decide +kernel
theorem dJ0_init_db425_30 : decode cJ0_init_db425 30 = .ok (.iload 4, 2) := by decide +kernel
theorem dJ0_init_db425_32 : decode cJ0_init_db425 32 = .ok (.invokestatic 54, 3) := by decide +kernel
theorem dJ0_init_db425_35 : decode cJ0_init_db425 35 = .ok (.putfield 9, 3) := by decide +kernel
theorem dJ0_init_db425_38 : decode cJ0_init_db425 38 = .ok (.goto 59, 3) := by decide +kernel
theorem dJ0_init_db425_41 : decode cJ0_init_db425 41 = .ok (.getstatic 38, 3) := by decide +kernel
theorem dJ0_init_db425_44 : decode cJ0_init_db425 44 = .ok (.ifCond .eq 35, 3) := by decide +kernel
theorem dJ0_init_db425_47 : decode cJ0_init_db425 47 = .ok (.aload_n 1, 1) := by decide +kernel
theorem dJ0_init_db425_48 : decode cJ0_init_db425 48 = .ok (.getfield 1048, 3) := by decide +kernel
theorem dJ0_init_db425_51 : decode cJ0_init_db425 51 = .ok (.ifCond .eq 28, 3) := by decide +kernel
theorem dJ0_init_db425_54 : decode cJ0_init_db425 54 = .ok (.aload_n 0, 1) := by decide +kernel
theorem dJ0_init_db425_55 : decode cJ0_init_db425 55 = .ok (.aload_n 3, 1) := by decide +kernel
theorem dJ0_init_db425_56 : decode cJ0_init_db425 56 = .ok (.iconst 0, 1) := by decide +kernel
theorem dJ0_init_db425_57 : decode cJ0_init_db425 57 = .ok (.iload 4, 2) := by decide +kernel
theorem dJ0_init_db425_59 : decode cJ0_init_db425 59 = .ok (.invokestatic 1051, 3) := by decide +kernel
theorem dJ0_init_db425_62 : decode cJ0_init_db425 62 = .ok (.putfield 9, 3) := by decide +kernel
theorem dJ0_init_db425_65 : decode cJ0_init_db425 65 = .ok (.aload_n 0, 1) := by decide +kernel
theorem dJ0_init_db425_66 : decode cJ0_init_db425 66 = .ok (.aload_n 0, 1) := by decide +kernel
theorem dJ0_init_db425_67 : decode cJ0_init_db425 67 = .ok (.getfield 9, 3) := by decide +kernel
theorem dJ0_init_db425_70 : decode cJ0_init_db425 70 = .ok (.iload 4, 2) := by decide +kernel
theorem dJ0_init_db425_72 : decode cJ0_init_db425 72 = .ok (.invokestatic 47, 3) := by decide +kernel
theorem dJ0_init_db425_75 : decode cJ0_init_db425 75 = .ok (.putfield 15, 3) := by decide +kernel
theorem dJ0_init_db425_78 : decode cJ0_init_db425 78 = .ok (.return_, 1) := by decide +kernel
theorem dJ0_init_db425_79 : decode cJ0_init_db425 79 = .ok (.aload_n 0, 1) := by decide +kernel
theorem dJ0_init_db425_80 : decode cJ0_init_db425 80 = .ok (.iconst 1, 1) := by decide +kernel
theorem dJ0_init_db425_81 : decode cJ0_init_db425 81 = .ok (.putfield 15, 3) := by decide +kernel
theorem dJ0_init_db425_84 : decode cJ0_init_db425 84 = .ok (.aload_n 0, 1) := by decide +kernel
theorem dJ0_init_db425_85 : decode cJ0_init_db425 85 = .ok (.aload_n 3, 1) := by decide +kernel
theorem dJ0_init_db425_86 : decode cJ0_init_db425 86 = .ok (.iconst 0, 1) := by decide +kernel
theorem dJ0_init_db425_87 : decode cJ0_init_db425 87 = .ok (.iload 4, 2) := by decide +kernel
theorem dJ0_init_db425_89 : decode cJ0_init_db425 89 = .ok (.iconst 1, 1) := by decide +kernel
theorem dJ0_init_db425_90 : decode cJ0_init_db425 90 = .ok (.ishl, 1) := by decide +kernel
theorem dJ0_init_db425_91 : decode cJ0_init_db425 91 = .ok (.invokestatic 54, 3) := by decide +kernel
theorem dJ0_init_db425_94 : decode cJ0_init_db425 94 = .ok (.putfield 9, 3) := by decide +kernel
theorem dJ0_init_db425_97 : decode cJ0_init_db425 97 = .ok (.return_, 1) := by decide +kernel
theorem c_strI {l : Launch} (hl0 : l.flags = flags0) {D : List zDs} {σ : zS} {i j n : Nat} {t : Nat → Nat} (hS : sbIn D i j) (hA : sbA σ i j t n) (hN : D.length ≠ 27) (hf : (D ++ [zStr0]).all (zrokb (D.length + 1)) = true) : ∃ σ', zC l yJ0_init_db425 cJ0_init_db425 5 (Option.none : Option Jvm.ClassFile.FieldType) 3 1 1000 [.ref D.length, .ref i, .null] (D ++ [zStr0]) σ (.inl none, D ++ [zST (D.length + 1), .inr (5, 0)], σ') ∧ zstA σ' D.length (D.length + 1) t n ∧ zLo D.length σ σ' := by
  obtain ⟨n0, hj⟩ := hS.hj
  have hi := hS.hi
  have hi27 := hS.i27
  have hD := hS.len
  have hl1 : (D ++ [zStr0]).length = D.length + 1 := by simp
  have hi1 : (D ++ [zStr0])[i]? = some (zSB j) := zatL hi
  have hj1 : (D ++ [zStr0])[j]? = some (.inr (5, n0)) := zatL hj
  have hil := (List.getElem?_eq_some_iff.mp hi).1
  have hjl := (List.getElem?_eq_some_iff.mp hj).1
  have hoi : zoks (D ++ [zStr0]).length (.ref i) = true := zoks_of hi1 hi27
  have hoj : zoks (D ++ [zStr0]).length (.ref j) = true := zoks_of hj1 hS.j24.2.2
  have hoD : zoks (D ++ [zStr0]).length (.ref D.length) = true := zoks_of zat0 hN
  have hA1 : sbA (zi σ D.length 1 0) i j t n := sbA_lo (zi_lo (Nat.le_refl _)) hil hjl hA
  obtain ⟨σ', hC, hO⟩ := c_corR hl0 (dl := D ++ [zStr0]) (σ := zi σ D.length 1 0) hj1 hS.j24.2.2 hA1.le hA1.cap hA1.fit (by omega) (by rw [hl1]; exact hf)
  rw [hl1] at hO
  have hNs : σ'.1 D.length = (zi σ D.length 1 0).1 D.length := (hO.1.1 D.length (by omega)).1
  refine ⟨σ', ?_, ⟨by rw [hNs, zupd]; rfl, hO.2.1, ?_, fun k hk => ?_, hO.2.2.2⟩, (zi_lo (Nat.le_refl _)).tr (hO.1.lo (by omega))⟩
  rotate_left
  · have := hA.le
    have := hA.cap
    omega
  · rw [hO.2.2.1 k hk]
    exact hA1.lat k hk
  refine zC_of hl0 rfl (Nat.le_of_ble_eq_true rfl) (fun x hG hxl hk hnam => ?_)
  subst hxl
  show zK x 3 0 [(0, .ref D.length), (1, .ref i), (2, .null)] [] (D ++ [zStr0]) σ 1 1000
  refine z_aload_n (pc := 0) hG 0 rfl rfl dJ0_init_db425_0 ?_
  refine z_objinit (pc := 1) hG w1022 w67 w_oin (Nat.le_of_ble_eq_true rfl) dJ0_init_db425_1 ?_
  refine z_aload_n (pc := 4) hG 1 rfl rfl dJ0_init_db425_4 ?_
  refine z_virtS (pc := 5) (A' := 1) (B' := 1000) (st2 := [.ref j]) (v := some (.ref j)) hG [] [] zc_J4 hi1 (c_getv hl0 hi1) zy_J5_getValue_6d5f1 ⟨w1024, w1026⟩ w1023 dJ0_init_db425_5 rfl (Nat.le_of_ble_eq_true rfl) (Nat.le_refl _) rfl (zand hoD (zand hoi (zand rfl rfl))) rfl rfl (Nat.le_of_ble_eq_true rfl) rfl rfl ?_
  refine z_astore_n (pc := 8) (ls' := [(3, .ref j), (0, .ref D.length), (1, .ref i), (2, .null)]) hG [0, 1, 2, 3] rfl (by decide) rfl dJ0_init_db425_8 ?_
  refine z_aload_n (pc := 9) hG 2 rfl rfl dJ0_init_db425_9 ?_
  refine z_virtO (pc := 10) (A' := 1) (B' := 1000) (st2 := [.int (σ.1 i 3)]) (v := some (.int (σ.1 i 3))) (owner := RJ5) (y0 := yJ5_length_8abf5) hG [] [] zc_J4 hi1 (c_len4 hl0 hi1 hi27) zy_J4_length_8abf5 ⟨w1032, wv_1030, w1029, w1031, w1035⟩ ⟨by decide, by decide⟩ (by decide +kernel) w1028 dJ0_init_db425_10 rfl (Nat.le_of_ble_eq_true rfl) (Nat.le_refl _) rfl (zand hoj (zand hoD (zand hoi (zand rfl rfl)))) rfl rfl (Nat.le_of_ble_eq_true rfl) rfl rfl ?_
  rw [show (σ.1 i 3) = (nI n) from hA.cnt]
  refine z_istore (pc := 13) (ls' := [(4, .int ((nI n))), (3, .ref j), (0, .ref D.length), (1, .ref i), (2, .null)]) hG [0, 1, 2, 3, 4] (by decide) rfl dJ0_init_db425_13 ?_
  refine z_aload_n (pc := 15) hG 3 rfl rfl dJ0_init_db425_15 ?_
  refine z_virtS (pc := 16) (A' := 1) (B' := 1000) (st2 := [.int ((1 : Int32))]) (v := some (.int ((1 : Int32)))) hG [] [] zc_J4 hi1 (c_isLatin1 hl0 hi1 hA.c0) zy_J5_isLatin1_aae02 ⟨w877, w879⟩ w1036 dJ0_init_db425_16 rfl (Nat.le_of_ble_eq_true rfl) (Nat.le_refl _) rfl (zand rfl (zand hoj (zand hoD (zand hoi (zand rfl rfl))))) rfl rfl (Nat.le_of_ble_eq_true rfl) rfl rfl ?_
  refine z_if_eq (pc := 19) (tgt := 41) hG dJ0_init_db425_19 rfl (fun hbr => False.elim ((fun h => absurd h (by decide)) hbr)) (fun _ => ?_)
  refine z_aload_n (pc := 22) hG 2 rfl rfl dJ0_init_db425_22 ?_
  refine z_iconst (pc := 23) (v := (0 : Int32)) hG (by decide) dJ0_init_db425_23 ?_
  refine z_putiF (pc := 24) hG hnam zc_J0 inJ0 tyJ0 tyJ0_ok nmJ0 zat0 1 rfl (by decide) rfl w1060 rfl rfl rfl rfl dJ0_init_db425_24 ?_
  refine z_aload_n (pc := 27) hG 2 rfl rfl dJ0_init_db425_27 ?_
  refine z_aload_n (pc := 28) hG 1 rfl rfl dJ0_init_db425_28 ?_
  refine z_iconst (pc := 29) (v := (0 : Int32)) hG (by decide) dJ0_init_db425_29 ?_
  refine z_iload (pc := 30) hG 0 rfl dJ0_init_db425_30 ?_
  refine z_statS (pc := 32) (A' := 0) (B' := 1000 - n) (st2 := [.ref (D ++ [zStr0]).length, .ref D.length]) (v := some (.ref (D ++ [zStr0]).length)) hG [.ref j, .int (0 : Int32), .int (nI n)] [.ref D.length] hC zy_J7_copyOfRange_39247 w1038 w1037 dJ0_init_db425_32 rfl (Nat.le_of_ble_eq_true rfl) (by rw [List.length_append (as := D ++ [zStr0])]; omega) (zand hoD rfl) (zand rfl (zand hoj (zand hoD (zand hoi (zand rfl rfl))))) rfl (by have := hA.le; have := hA.cap; omega) (Nat.le_of_ble_eq_true rfl) rfl rfl ?_
  rw [show (D ++ [zStr0]).length = D.length + 1 from by simp]
  refine z_putrF (pc := 35) hG hnam zc_J0 inJ0 tyJ0 tyJ0_ok nmJ0 (i := D.length) (fl := [(3, 0), (0, 0), (0, 0), (0, 0)]) (q := (1, D.length + 1)) (by rw [List.append_assoc]; exact zat0) 0 (by decide) (show 0 < 4 by decide) rfl (fun _ => rfl) w1059 rfl rfl (fun _ => rfl) (fun _ => rfl) (dl' := D ++ [zST (D.length + 1), .inr (5, 0)]) (by rw [List.append_assoc]; exact zset0) dJ0_init_db425_35 ?_
  refine z_goto (pc := 38) (tgt := 97) hG dJ0_init_db425_38 rfl ?_
  exact z_vret (pc := 97) hG rfl hk dJ0_init_db425_97
theorem dJ0_init_81219_0 : decode cJ0_init_81219 0 = .ok (.aload_n 0, 1) := by decide +kernel
theorem dJ0_init_81219_1 : decode cJ0_init_81219 1 = .ok (.aload_n 1, 1) := by decide +kernel
theorem dJ0_init_81219_2 : decode cJ0_init_81219 2 = .ok (.aconst_null, 1) := by decide +kernel
theorem dJ0_init_81219_3 : decode cJ0_init_81219 3 = .ok (.invokespecial 489, 3) := by decide +kernel
theorem dJ0_init_81219_6 : decode cJ0_init_81219 6 = .ok (.return_, 1) := by decide +kernel
theorem c_strJ {l : Launch} (hl0 : l.flags = flags0) {D : List zDs} {σ : zS} {i j n : Nat} {t : Nat → Nat} (hS : sbIn D i j) (hA : sbA σ i j t n) (hN : zMv D.length = false) (hf : (D ++ [zStr0]).all (zrokb (D.length + 1)) = true) : ∃ σ', zC l yJ0_init_81219 cJ0_init_81219 2 (Option.none : Option Jvm.ClassFile.FieldType) 4 1 1000 [.ref D.length, .ref i] (D ++ [zStr0]) σ (.inl none, D ++ [zST (D.length + 1), .inr (5, 0)], σ') ∧ zstA σ' D.length (D.length + 1) t n ∧ zLo D.length σ σ' := by
  have hil := (List.getElem?_eq_some_iff.mp hS.hi).1
  have hkD : zok (D.length + 1) (.ref D.length) = true := by
    have h := zok_of (dl := D ++ [zStr0]) zat0 hN
    rwa [show (D ++ [zStr0]).length = D.length + 1 from by simp] at h
  have hki : zok (D.length + 1) (.ref i) = true := by
    have h := zok_of (dl := D ++ [zStr0]) (zatL hS.hi) hS.mi
    rwa [show (D ++ [zStr0]).length = D.length + 1 from by simp] at h
  obtain ⟨σ', hC, h1, h2⟩ := c_strI hl0 hS hA (zMv_ne hN) hf
  refine ⟨σ', ?_, h1, h2⟩
  refine zC_of hl0 rfl (Nat.le_of_ble_eq_true rfl) (fun x hG hxl hk _ => ?_)
  subst hxl
  show zK x 4 0 [(0, .ref D.length), (1, .ref i)] [] (D ++ [zStr0]) σ 1 1000
  refine z_aload_n (pc := 0) hG 0 rfl rfl dJ0_init_81219_0 ?_
  refine z_aload_n (pc := 1) hG 1 rfl rfl dJ0_init_81219_1 ?_
  refine z_null (pc := 2) hG dJ0_init_81219_2 ?_
  refine z_spec (pc := 3) (A' := 0) (B' := 0) (rest := []) hG (D.length + 1) [.ref i, .null] hC zy_J0_init_db425 rfl w1020 w1019 dJ0_init_81219_3 rfl (Nat.le_of_ble_eq_true rfl) (by simp) (by simp) rfl (zand hkD (zand hki rfl)) rfl rfl (Nat.le_of_ble_eq_true rfl) rfl ?_
  exact z_vret (pc := 6) hG rfl hk dJ0_init_81219_6
theorem dJ4_toString_0e30d_0 : decode cJ4_toString_0e30d 0 = .ok (.new 18, 3) := by decide +kernel
theorem dJ4_toString_0e30d_3 : decode cJ4_toString_0e30d 3 = .ok (.dup, 1) := by decide +kernel
theorem dJ4_toString_0e30d_4 : decode cJ4_toString_0e30d 4 = .ok (.aload_n 0, 1) := by decide +kernel
theorem dJ4_toString_0e30d_5 : decode cJ4_toString_0e30d 5 = .ok (.invokespecial 137, 3) := by decide +kernel
theorem dJ4_toString_0e30d_8 : decode cJ4_toString_0e30d 8 = .ok (.areturn, 1) := by decide +kernel
theorem c_str4 {l : Launch} (hl0 : l.flags = flags0) {D : List zDs} {σ : zS} {i j n : Nat} {t : Nat → Nat} (hS : sbIn D i j) (hA : sbA σ i j t n) (hN : zMv D.length = false) (hf : (D ++ [zStr0]).all (zrokb (D.length + 1)) = true) : ∃ σ', zC l yJ4_toString_0e30d cJ4_toString_0e30d 1 (Option.some (Jvm.ClassFile.FieldType.object "java/lang/String")) 5 2 1004 [.ref i] D σ (.inl (some (.ref D.length)), D ++ [zST (D.length + 1), .inr (5, 0)], σ') ∧ zstA σ' D.length (D.length + 1) t n ∧ zLo D.length σ σ' := by
  have hil := (List.getElem?_eq_some_iff.mp hS.hi).1
  have hjl := (List.getElem?_eq_some_iff.mp hS.hj.choose_spec).1
  have hD := hS.len
  have hni : zokn D.length (.ref i) = true := bne_iff_ne.mpr (Nat.ne_of_lt hil)
  have hkD : zok (D.length + 1) (.ref D.length) = true := by
    have h := zok_of (dl := D ++ [zStr0]) zat0 hN
    rwa [show (D ++ [zStr0]).length = D.length + 1 from by simp] at h
  have hki : zok (D.length + 1) (.ref i) = true := by
    have h := zok_of (dl := D ++ [zStr0]) (zatL hS.hi) hS.mi
    rwa [show (D ++ [zStr0]).length = D.length + 1 from by simp] at h
  have hfs : ∀ j, j < 4 → defaultValue (tyJ0 j) = vp_V ([(3, 0), (0, 0), (0, 0), (0, 0)].map zdv) j := by decide
  have h0 : zLo D.length σ (zini σ D.length 0) := zini_ag.lo (Nat.le_refl _)
  obtain ⟨σ', hC, h1, h2⟩ := c_strJ hl0 hS (sbA_lo h0 hil hjl hA) hN hf
  refine ⟨σ', ?_, h1, h0.tr h2⟩
  refine zC_of hl0 rfl (Nat.le_of_ble_eq_true rfl) (fun x hG hxl hk _ => ?_)
  subst hxl
  show zK x 5 0 [(0, .ref i)] [] D σ 2 1004
  refine z_ini D.length 0 (Nat.le_refl _) ?_
  refine z_new (pc := 0) (A' := 1) (B' := 1000) (ci := 11) (fl := [(3, 0), (0, 0), (0, 0), (0, 0)]) (i := D.length) hG zc_J0 inJ0 tyJ0 tyJ0_ok w1014 w1015 w13 rfl (by omega) (hS.fr _ (Nat.le_refl _) hS.len) (fun k => congrFun zini_s k) rfl hfs rfl (zand hni rfl) (dl' := D ++ [zStr0]) rfl rfl rfl dJ4_toString_0e30d_0 ?_
  refine z_dup (pc := 3) hG rfl dJ4_toString_0e30d_3 ?_
  refine z_aload_n (pc := 4) hG 0 rfl rfl dJ4_toString_0e30d_4 ?_
  refine z_spec (pc := 5) (A' := 0) (B' := 0) (rest := [.ref D.length]) hG (D.length + 1) [.ref i] hC zy_J0_init_81219 rfl w1017 w1016 dJ4_toString_0e30d_5 rfl (Nat.le_of_ble_eq_true rfl) (by simp) (by simp) (zand hkD rfl) (zand hki rfl) rfl rfl (Nat.le_of_ble_eq_true rfl) rfl ?_
  exact z_areto (pc := 8) hG rfl hk dJ4_toString_0e30d_8
theorem dJ5_init_d00df_0 : decode cJ5_init_d00df 0 = .ok (.aload_n 0, 1) := by decide +kernel
theorem dJ5_init_d00df_1 : decode cJ5_init_d00df 1 = .ok (.invokespecial 3, 3) := by decide +kernel
theorem dJ5_init_d00df_4 : decode cJ5_init_d00df 4 = .ok (.getstatic 18, 3) := by decide +kernel
theorem dJ5_init_d00df_7 : decode cJ5_init_d00df 7 = .ok (.ifCond .eq 18, 3) := by decide +kernel
theorem dJ5_init_d00df_10 : decode cJ5_init_d00df 10 = .ok (.aload_n 0, 1) := by decide +kernel
theorem dJ5_init_d00df_11 : decode cJ5_init_d00df 11 = .ok (.iload_n 1, 1) := by decide +kernel
theorem dJ5_init_d00df_12 : decode cJ5_init_d00df 12 = .ok (.newarray .byte, 2) := by decide +kernel
theorem dJ5_init_d00df_14 : decode cJ5_init_d00df 14 = .ok (.putfield 15, 3) := by decide +kernel
theorem dJ5_init_d00df_17 : decode cJ5_init_d00df 17 = .ok (.aload_n 0, 1) := by decide +kernel
theorem dJ5_init_d00df_18 : decode cJ5_init_d00df 18 = .ok (.iconst 0, 1) := by decide +kernel
theorem dJ5_init_d00df_19 : decode cJ5_init_d00df 19 = .ok (.putfield 22, 3) := by decide +kernel
theorem dJ5_init_d00df_22 : decode cJ5_init_d00df 22 = .ok (.goto 16, 3) := by decide +kernel
theorem dJ5_init_d00df_25 : decode cJ5_init_d00df 25 = .ok (.aload_n 0, 1) := by decide +kernel
theorem dJ5_init_d00df_26 : decode cJ5_init_d00df 26 = .ok (.iload_n 1, 1) := by decide +kernel
theorem dJ5_init_d00df_27 : decode cJ5_init_d00df 27 = .ok (.invokestatic 26, 3) := by decide +kernel
theorem dJ5_init_d00df_30 : decode cJ5_init_d00df 30 = .ok (.putfield 15, 3) := by decide +kernel
theorem dJ5_init_d00df_33 : decode cJ5_init_d00df 33 = .ok (.aload_n 0, 1) := by decide +kernel
theorem dJ5_init_d00df_34 : decode cJ5_init_d00df 34 = .ok (.iconst 1, 1) := by decide +kernel
theorem dJ5_init_d00df_35 : decode cJ5_init_d00df 35 = .ok (.putfield 22, 3) := by decide +kernel
theorem dJ5_init_d00df_38 : decode cJ5_init_d00df 38 = .ok (.return_, 1) := by decide +kernel
theorem c_absI {l : Launch} (hl0 : l.flags = flags0) {σ : zS} {D : List zDs} (hD : D.length < 880) (hf : (D ++ [zB0]).all (zrokb (D.length + 1)) = true) : zC l yJ5_init_d00df cJ5_init_d00df 2 (Option.none : Option Jvm.ClassFile.FieldType) 0 1 16 [.ref D.length, .int 16] (D ++ [zB0]) σ (.inl none, D ++ [zSB (D.length + 1), .inr (5, 0)], zi (zini σ (D.length + 1) 16) D.length 1 ((0 : Int32))) := by
  have hl1 : (D ++ [zB0]).length = D.length + 1 := by simp
  have hnD : zokn (D.length + 1) (.ref D.length) = true := bne_iff_ne.mpr (Nat.ne_of_lt (Nat.lt_succ_self _))
  refine zC_of hl0 rfl (Nat.le_of_ble_eq_true rfl) (fun x hG hxl hk _ => ?_)
  subst hxl
  show zK x 0 0 [(0, .ref D.length), (1, .int ((16 : Int32)))] [] (D ++ [zB0]) σ 1 16
  refine z_aload_n (pc := 0) hG 0 rfl rfl dJ5_init_d00df_0 ?_
  refine z_objinit (pc := 1) hG w809 w67 w_oin (Nat.le_of_ble_eq_true rfl) dJ5_init_d00df_1 ?_
  refine z_cstr (pc := 4) hG w810 dJ5_init_d00df_4 ?_
  refine z_if_eq (pc := 7) (tgt := 25) hG dJ5_init_d00df_7 rfl (fun hbr => False.elim ((fun h => absurd h (by decide)) hbr)) (fun _ => ?_)
  refine z_aload_n (pc := 10) hG 0 rfl rfl dJ5_init_d00df_10 ?_
  refine z_iload_n (pc := 11) hG 1 rfl rfl dJ5_init_d00df_11 ?_
  refine z_ini (D.length + 1) 16 (Nat.le_of_eq hl1) ?_
  refine z_newa (pc := 12) (A' := 0) (B' := 0) (atype := .byte) (t := 1) (N := 16) (z := (16, .inl (fun _ => 0))) hG wa_byte rfl (fun _ => rfl) rfl (fun _ _ => Iff.rfl) (i := D.length + 1) hl1 (by omega) hf (dsc := .inr (5, 0)) (fun ad ca => by show (Sum.inl (ca 1, zLn (zini σ (D.length + 1) 16) (D.length + 1), Sum.inl ((zini σ (D.length + 1) 16).1 (D.length + 1))) : va_E) = _; rw [zini_s, zini_L (by decide)]) (fun _ => rfl) (by decide) rfl (Nat.le_of_ble_eq_true rfl) (zand hnD rfl) (zand hnD (zand rfl rfl)) (dl' := D ++ [zB0, .inr (5, 0)]) (by rw [List.append_assoc]; rfl) rfl rfl dJ5_init_d00df_12 ?_
  refine z_putr (pc := 14) hG zc_J4 inJ4 tyJ4 tyJ4_ok nmJ4 (i := D.length) (fl := [(3, 0), (0, 0), (0, 0), (0, 0)]) (q := (1, D.length + 1)) zat0 0 (by decide) (show 0 < 4 by decide) rfl (fun _ => rfl) w819 rfl (fun _ => rfl) (fun _ => rfl) (dl' := D ++ [zSB (D.length + 1), .inr (5, 0)]) zset0 dJ5_init_d00df_14 ?_
  refine z_aload_n (pc := 17) hG 0 rfl rfl dJ5_init_d00df_17 ?_
  refine z_iconst (pc := 18) (v := (0 : Int32)) hG (by decide) dJ5_init_d00df_18 ?_
  refine z_puti (pc := 19) hG zc_J4 inJ4 tyJ4 tyJ4_ok nmJ4 zat0 1 rfl (by decide) rfl w820 rfl rfl rfl dJ5_init_d00df_19 ?_
  refine z_goto (pc := 22) (tgt := 38) hG dJ5_init_d00df_22 rfl ?_
  exact z_vret (pc := 38) hG rfl hk dJ5_init_d00df_38
theorem dJ4_init_da8c8_0 : decode cJ4_init_da8c8 0 = .ok (.aload_n 0, 1) := by decide +kernel
theorem dJ4_init_da8c8_1 : decode cJ4_init_da8c8 1 = .ok (.bipush 16, 2) := by decide +kernel
theorem dJ4_init_da8c8_3 : decode cJ4_init_da8c8 3 = .ok (.invokespecial 1, 3) := by decide +kernel
theorem dJ4_init_da8c8_6 : decode cJ4_init_da8c8 6 = .ok (.return_, 1) := by decide +kernel
theorem c_sbI {l : Launch} (hl0 : l.flags = flags0) {σ : zS} {D : List zDs} (hD : D.length < 880) (hN : zMv D.length = false) (hf : (D ++ [zB0]).all (zrokb (D.length + 1)) = true) : zC l yJ4_init_da8c8 cJ4_init_da8c8 1 (Option.none : Option Jvm.ClassFile.FieldType) 1 1 16 [.ref D.length] (D ++ [zB0]) σ (.inl none, D ++ [zSB (D.length + 1), .inr (5, 0)], zi (zini σ (D.length + 1) 16) D.length 1 ((0 : Int32))) := by
  have hkD : zok (D.length + 1) (.ref D.length) = true := by
    have h := zok_of (dl := D ++ [zB0]) zat0 hN
    rwa [show (D ++ [zB0]).length = D.length + 1 from by simp] at h
  refine zC_of hl0 rfl (Nat.le_of_ble_eq_true rfl) (fun x hG hxl hk _ => ?_)
  subst hxl
  show zK x 1 0 [(0, .ref D.length)] [] (D ++ [zB0]) σ 1 16
  refine z_aload_n (pc := 0) hG 0 rfl rfl dJ4_init_da8c8_0 ?_
  refine z_bipush (pc := 1) (v := (16 : Int32)) hG (by decide) dJ4_init_da8c8_1 ?_
  refine z_spec (pc := 3) (A' := 0) (B' := 0) (rest := []) hG (D.length + 1) [.int (16 : Int32)] (c_absI hl0 hD hf) zy_J5_init_d00df rfl w807 w806 dJ4_init_da8c8_3 rfl (Nat.le_of_ble_eq_true rfl) (by simp) (by simp) rfl (zand hkD rfl) rfl rfl (Nat.le_of_ble_eq_true rfl) rfl ?_
  exact z_vret (pc := 6) hG rfl hk dJ4_init_da8c8_6
/-- a new builder is empty -/
theorem sbI_A {σ : zS} {N : Nat} {t : Nat → Nat} : sbA (zi (zini (zini σ N 0) (N + 1) 16) N 1 0) N (N + 1) t 0 ∧ zLo N σ (zi (zini (zini σ N 0) (N + 1) 16) N 1 0) := by
  have e0 : (zini (zini σ N 0) (N + 1) 16).1 N = fun _ => 0 := ((zini_ag.1 N (by omega)).1).trans zini_s
  have e1 : (zi (zini (zini σ N 0) (N + 1) 16) N 1 0).1 N = fun _ => 0 := by
    rw [zupd, e0]
    funext k
    show upd _ 1 0 k = 0
    by_cases hk : k = 1
    · rw [hk]; exact pk_us
    · exact pk_un hk
  have e2 : (zi (zini (zini σ N 0) (N + 1) 16) N 1 0).1 (N + 1) = fun _ => 0 := (zi_o (by omega)).trans zini_s
  have e3 : zLn (zi (zini (zini σ N 0) (N + 1) 16) N 1 0) (N + 1) = 16 := zini_L (by decide)
  refine ⟨⟨by rw [e1], by rw [e1]; rfl, Nat.zero_le _, by rw [e3]; decide, fun k hk => absurd hk (Nat.not_lt_zero k), by rw [e2]; exact sb_fit0⟩, (zini_ag.lo (Nat.le_refl _)).tr ((zini_ag.lo (by omega)).tr (zi_lo (Nat.le_refl _)))⟩
