/-! ===== StringBuilder.append(char) ===== -/
theorem dJ4_append_cf468_0 : decode cJ4_append_cf468 0 = .ok (.aload_n 0, 1) := by decide +kernel
theorem dJ4_append_cf468_1 : decode cJ4_append_cf468 1 = .ok (.iload_n 1, 1) := by decide +kernel
theorem dJ4_append_cf468_2 : decode cJ4_append_cf468 2 = .ok (.invokespecial 50, 3) := by decide +kernel
theorem dJ4_append_cf468_5 : decode cJ4_append_cf468 5 = .ok (.pop, 1) := by decide +kernel
theorem dJ4_append_cf468_6 : decode cJ4_append_cf468 6 = .ok (.aload_n 0, 1) := by decide +kernel
theorem dJ4_append_cf468_7 : decode cJ4_append_cf468 7 = .ok (.areturn, 1) := by decide +kernel
theorem c_appC4 {l : Launch} (hl0 : l.flags = flags0) {dl : List zDs} {σ : zS} {i j n : Nat} {t : Nat → Nat} (hS : sbIn dl i j) (hA : sbA σ i j t n) {k : Nat} (hn : n + 1 ≤ 499) (hk7 : k < 256) : ∃ σ', zCg l yJ4_append_cf468 cJ4_append_cf468 2 (Option.some (Jvm.ClassFile.FieldType.object "java/lang/StringBuilder")) 4 1 1000 [.ref i, .int (nI k)] dl σ (.inl (some (.ref i)), dl, σ') ∧ sbA σ' i j (sb_cat t n (fun _ => k)) (n + 1) ∧ sbO dl.length i j σ σ' := by
  have hi := hS.hi
  have hok : zok dl.length (.ref i) = true := zok_of hi hS.mi
  obtain ⟨σ', hC, h1, h2⟩ := c_appC hl0 hS hA hn hk7
  refine ⟨σ', ?_, h1, h2⟩
  refine zCg_of hl0 rfl (Nat.le_of_ble_eq_true rfl) (fun x hG hxl hk hns hn0 => ?_)
  subst hxl
  show zK x 4 0 [(0, .ref i), (1, .int ((nI k)))] [] dl σ 1 1000
  refine z_aload_n (pc := 0) hG 0 rfl rfl dJ4_append_cf468_0 ?_
  refine z_iload_n (pc := 1) hG 1 rfl rfl dJ4_append_cf468_1 ?_
  refine z_superG (pc := 2) (A' := 0) (B' := 0) (st2 := [.ref i]) (v := some (.ref i)) hG hns [.int ((nI k))] [] zc_J4 hi (hC) zy_J5_append_3fe6f (by decide) ⟨w955, wv_1274, wv_831⟩ w954 dJ4_append_cf468_2 rfl (Nat.le_of_ble_eq_true rfl) (Nat.le_refl _) rfl (zand hok (zand rfl rfl)) rfl rfl (Nat.le_of_ble_eq_true rfl) rfl rfl ?_
  refine z_pop (pc := 5) hG rfl dJ4_append_cf468_5 ?_
  refine z_aload_n (pc := 6) hG 0 rfl rfl dJ4_append_cf468_6 ?_
  exact z_areto (pc := 7) hG rfl hk dJ4_append_cf468_7
