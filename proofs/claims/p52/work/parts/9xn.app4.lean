/-! ===== StringBuilder.append(String), append(int), length ===== -/
theorem dJ4_append_15ec4_0 : decode cJ4_append_15ec4 0 = .ok (.aload_n 0, 1) := by decide +kernel
theorem dJ4_append_15ec4_1 : decode cJ4_append_15ec4 1 = .ok (.aload_n 1, 1) := by decide +kernel
theorem dJ4_append_15ec4_2 : decode cJ4_append_15ec4 2 = .ok (.invokespecial 29, 3) := by decide +kernel
theorem dJ4_append_15ec4_5 : decode cJ4_append_15ec4 5 = .ok (.pop, 1) := by decide +kernel
theorem dJ4_append_15ec4_6 : decode cJ4_append_15ec4 6 = .ok (.aload_n 0, 1) := by decide +kernel
theorem dJ4_append_15ec4_7 : decode cJ4_append_15ec4 7 = .ok (.areturn, 1) := by decide +kernel
theorem c_appT4 {l : Launch} (hl0 : l.flags = flags0) {dl : List zDs} {σ : zS} {i j n : Nat} {t : Nat → Nat} (hS : sbIn dl i j) (hA : sbA σ i j t n) {q L : Nat} (hq : zsq2 q = true) (hL : llen.getD (q - 1000) 0 = L) (hn : n + L ≤ 499) : ∃ σ', zCg l yJ4_append_15ec4 cJ4_append_15ec4 2 (Option.some (Jvm.ClassFile.FieldType.object "java/lang/StringBuilder")) 4 1 1000 [.ref i, .ref q] dl σ (.inl (some (.ref i)), dl, σ') ∧ sbA σ' i j (sb_cat t n (ltx q)) (n + L) ∧ sbO dl.length i j σ σ' := by
  have hi := hS.hi
  have hok : zok dl.length (.ref i) = true := zok_of hi hS.mi
  have hkq : zok dl.length (.ref q) = true := zok_hi (by have := (zsq2_lo hq).1; omega)
  obtain ⟨σ', hC, h1, h2⟩ := c_appT hl0 hS hA hq hL hn
  refine ⟨σ', ?_, h1, h2⟩
  refine zCg_of hl0 rfl (Nat.le_of_ble_eq_true rfl) (fun x hG hxl hk hns hn0 => ?_)
  subst hxl
  show zK x 4 0 [(0, .ref i), (1, .ref q)] [] dl σ 1 1000
  refine z_aload_n (pc := 0) hG 0 rfl rfl dJ4_append_15ec4_0 ?_
  refine z_aload_n (pc := 1) hG 1 rfl rfl dJ4_append_15ec4_1 ?_
  refine z_superG (pc := 2) (A' := 0) (B' := 0) (st2 := [.ref i]) (v := some (.ref i)) hG hns [.ref q] [] zc_J4 hi (hC) zy_J5_append_cf1ce (by decide) ⟨w843, wv_1267, wv_831⟩ w842 dJ4_append_15ec4_2 rfl (Nat.le_of_ble_eq_true rfl) (Nat.le_refl _) rfl (zand hok (zand hkq rfl)) rfl rfl (Nat.le_of_ble_eq_true rfl) rfl rfl ?_
  refine z_pop (pc := 5) hG rfl dJ4_append_15ec4_5 ?_
  refine z_aload_n (pc := 6) hG 0 rfl rfl dJ4_append_15ec4_6 ?_
  exact z_areto (pc := 7) hG rfl hk dJ4_append_15ec4_7
theorem c_appM4 {l : Launch} (hl0 : l.flags = flags0) {dl : List zDs} {σ : zS} {i j n : Nat} {t : Nat → Nat} (hS : sbIn dl i j) (hA : sbA σ i j t n) {s b : Nat} (hM : zstM dl s b) {L : Nat} {u : Nat → Nat} (hU : zstA σ s b u L) (hbj : b ≠ j) (hn : n + L ≤ 499) : ∃ σ', zCg l yJ4_append_15ec4 cJ4_append_15ec4 2 (Option.some (Jvm.ClassFile.FieldType.object "java/lang/StringBuilder")) 4 1 1000 [.ref i, .ref s] dl σ (.inl (some (.ref i)), dl, σ') ∧ sbA σ' i j (sb_cat t n u) (n + L) ∧ sbO dl.length i j σ σ' := by
  have hi := hS.hi
  have hok : zok dl.length (.ref i) = true := zok_of hi hS.mi
  have hks : zok dl.length (.ref s) = true := zok_of hM.1 hM.2.2.2.2
  obtain ⟨σ', hC, h1, h2⟩ := c_appM hl0 hS hA hM hU hbj hn
  refine ⟨σ', ?_, h1, h2⟩
  refine zCg_of hl0 rfl (Nat.le_of_ble_eq_true rfl) (fun x hG hxl hk hns hn0 => ?_)
  subst hxl
  show zK x 4 0 [(0, .ref i), (1, .ref s)] [] dl σ 1 1000
  refine z_aload_n (pc := 0) hG 0 rfl rfl dJ4_append_15ec4_0 ?_
  refine z_aload_n (pc := 1) hG 1 rfl rfl dJ4_append_15ec4_1 ?_
  refine z_superG (pc := 2) (A' := 0) (B' := 0) (st2 := [.ref i]) (v := some (.ref i)) hG hns [.ref s] [] zc_J4 hi (hC) zy_J5_append_cf1ce (by decide) ⟨w843, wv_1267, wv_831⟩ w842 dJ4_append_15ec4_2 rfl (Nat.le_of_ble_eq_true rfl) (Nat.le_refl _) rfl (zand hok (zand hks rfl)) rfl rfl (Nat.le_of_ble_eq_true rfl) rfl rfl ?_
  refine z_pop (pc := 5) hG rfl dJ4_append_15ec4_5 ?_
  refine z_aload_n (pc := 6) hG 0 rfl rfl dJ4_append_15ec4_6 ?_
  exact z_areto (pc := 7) hG rfl hk dJ4_append_15ec4_7
theorem dJ4_append_bf812_0 : decode cJ4_append_bf812 0 = .ok (.aload_n 0, 1) := by decide +kernel
theorem dJ4_append_bf812_1 : decode cJ4_append_bf812 1 = .ok (.iload_n 1, 1) := by decide +kernel
theorem dJ4_append_bf812_2 : decode cJ4_append_bf812 2 = .ok (.invokespecial 53, 3) := by decide +kernel
theorem dJ4_append_bf812_5 : decode cJ4_append_bf812 5 = .ok (.pop, 1) := by decide +kernel
theorem dJ4_append_bf812_6 : decode cJ4_append_bf812 6 = .ok (.aload_n 0, 1) := by decide +kernel
theorem dJ4_append_bf812_7 : decode cJ4_append_bf812 7 = .ok (.areturn, 1) := by decide +kernel
theorem c_appI4 {l : Launch} (hl0 : l.flags = flags0) {dl : List zDs} {σ : zS} {i j n : Nat} {t : Nat → Nat} (hS : sbIn dl i j) (hA : sbA σ i j t n) {k : Nat} (hn : n + 1 ≤ 499) (hk9 : k < 10) : ∃ σ', zCg l yJ4_append_bf812 cJ4_append_bf812 2 (Option.some (Jvm.ClassFile.FieldType.object "java/lang/StringBuilder")) 4 1 1000 [.ref i, .int ((nI k))] dl σ (.inl (some (.ref i)), dl, σ') ∧ sbA σ' i j (sb_cat t n (fun _ => 48 + k)) (n + 1) ∧ sbO dl.length i j σ σ' := by
  have hi := hS.hi
  have hok : zok dl.length (.ref i) = true := zok_of hi hS.mi
  obtain ⟨σ', hC, h1, h2⟩ := c_appI hl0 hS hA hn hk9
  refine ⟨σ', ?_, h1, h2⟩
  refine zCg_of hl0 rfl (Nat.le_of_ble_eq_true rfl) (fun x hG hxl hk hns hn0 => ?_)
  subst hxl
  show zK x 4 0 [(0, .ref i), (1, .int ((nI k)))] [] dl σ 1 1000
  refine z_aload_n (pc := 0) hG 0 rfl rfl dJ4_append_bf812_0 ?_
  refine z_iload_n (pc := 1) hG 1 rfl rfl dJ4_append_bf812_1 ?_
  refine z_superG (pc := 2) (A' := 0) (B' := 0) (st2 := [.ref i]) (v := some (.ref i)) hG hns [.int ((nI k))] [] zc_J4 hi (hC) zy_J5_append_c97b9 (by decide) ⟨w979, wv_1275, wv_831⟩ w978 dJ4_append_bf812_2 rfl (Nat.le_of_ble_eq_true rfl) (Nat.le_refl _) rfl (zand hok (zand rfl rfl)) rfl rfl (Nat.le_of_ble_eq_true rfl) rfl rfl ?_
  refine z_pop (pc := 5) hG rfl dJ4_append_bf812_5 ?_
  refine z_aload_n (pc := 6) hG 0 rfl rfl dJ4_append_bf812_6 ?_
  exact z_areto (pc := 7) hG rfl hk dJ4_append_bf812_7
theorem dJ4_length_8abf5_0 : decode cJ4_length_8abf5 0 = .ok (.aload_n 0, 1) := by decide +kernel
theorem dJ4_length_8abf5_1 : decode cJ4_length_8abf5 1 = .ok (.invokespecial 343, 3) := by decide +kernel
theorem dJ4_length_8abf5_4 : decode cJ4_length_8abf5 4 = .ok (.ireturn, 1) := by decide +kernel
theorem c_len4 {l : Launch} (hl0 : l.flags = flags0) {dl : List zDs} {σ : zS} {i j : Nat} (hi : dl[i]? = some (zSB j)) (hi27 : i ≠ 27) : zC l yJ4_length_8abf5 cJ4_length_8abf5 1 (Option.some Jvm.ClassFile.FieldType.int) 1 0 0 [.ref i] dl σ (.inl (some (.int (σ.1 i 3))), dl, σ) := by
  have hoi : zoks dl.length (.ref i) = true := zoks_of hi hi27
  refine zC_of hl0 rfl (Nat.le_of_ble_eq_true rfl) (fun x hG hxl hk _ => ?_)
  subst hxl
  show zK x 1 0 [(0, .ref i)] [] dl σ 0 0
  refine z_aload_n (pc := 0) hG 0 rfl rfl dJ4_length_8abf5_0 ?_
  refine z_superS (pc := 1) (A' := 0) (B' := 0) (st2 := [.int ((σ.1 i 3))]) (v := some (.int ((σ.1 i 3)))) hG [] [] zc_J4 hi (c_len5 hl0 hi) zy_J5_length_8abf5 (by decide) ⟨w1029, wv_1030, wv_831⟩ w1034 dJ4_length_8abf5_1 rfl (Nat.le_of_ble_eq_true rfl) (Nat.le_refl _) rfl (zand hoi rfl) rfl rfl (Nat.le_of_ble_eq_true rfl) rfl rfl ?_
  exact z_iret (pc := 4) hG rfl rfl hk dJ4_length_8abf5_4
