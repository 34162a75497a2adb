/-! ===== text by contract, whole ===== -/
theorem zo42_3 : zoks zW3.length (.ref 42) = true := by rfl
theorem zo43_3 : zoks zW3.length (.ref 43) = true := by rfl
theorem c_sb43 {l : Launch} (hl0 : l.flags = flags0) {σ : zS} : zC l yJ4_init_da8c8 cJ4_init_da8c8 1 (Option.none : Option Jvm.ClassFile.FieldType) 1 1 16 [.ref 43] (zW1 ++ [zB0]) σ (.inl none, zW3, zi (zini σ 44 16) 43 1 0) := c_sbI (D := zW1) hl0 (by decide) rfl (by decide +kernel)
theorem tx_beg {l : Launch} (hl0 : l.flags = flags0) {σ : zS} {A B : Nat} : ∃ σ' n, 2 ≤ n ∧ n ≤ 4 ∧ mnR σ' n 0 (fun _ => 0) ∧ sbL σ' 43 44 [] ∧ agX [] 42 σ σ' ∧ ∀ x, zHx l cL_text 8 (Option.some (Jvm.ClassFile.FieldType.object "java/lang/String")) 43 x → zK x 9 23 [(4, .int (nI 0)), (3, .ref 45), (2, .int (nI n)), (1, .ref 43), (0, .ref 42)] [] zW4 σ' A B → zK x 9 0 [(0, .ref 42)] [] zW1 σ (A + 3) (B + 24) := by
  have hL0 : sbL (zi (zini (zini σ 43 0) 44 16) 43 1 0) 43 44 [] := sbI_A.1
  have g0 : agX [] 42 σ (zi (zini (zini σ 43 0) 44 16) 43 1 0) := (agX.rf (X := []) (N := 46)).tr2 (sbI_A (t := fun _ => 0)).2.ag (by decide) (by decide) (by decide) (by decide)
  obtain ⟨r1, v1, hr1, c1⟩ := c_of hl0 (dl := zW3) (σ := zi (zini (zini σ 43 0) 44 16) 43 1 0) (d := 42) (m := 3) zW3_42 (by decide) (by decide)
  have L1 : sbL (zi (zi (zini (zini σ 43 0) 44 16) 43 1 0) 42 0 v1) 43 44 ([]) := sbL_ag (zi_ag (N := 60)) (by decide) (by decide) (by decide) (by decide) hL0
  have G2 : agX [] 42 (zi (zini (zini σ 43 0) 44 16) 43 1 0) (zi (zi (zini (zini σ 43 0) 44 16) 43 1 0) 42 0 v1) := agX.tr2 (agX.rf (X := []) (N := 42)) (zi_ag (N := 60)) (by decide) (by decide) (by decide) (by decide)
  have hz : zLo 45 (zi (zi (zini (zini σ 43 0) 44 16) 43 1 0) 42 0 v1) (zini (zi (zi (zini (zini σ 43 0) 44 16) 43 1 0) 42 0 v1) 45 (2 + r1)) := zini_ag.lo (Nat.le_refl _)
  have hr5 := hr1
  refine ⟨zini (zi (zi (zini (zini σ 43 0) 44 16) 43 1 0) 42 0 v1) 45 (2 + r1), 2 + r1, by omega, by omega, ⟨zini_L (by omega), fun e he => absurd he (Nat.not_lt_zero e)⟩, sbL_lo hz (by decide) (by decide) L1, (g0.tr2 (zi_ag (N := 60)) (by decide) (by decide) (by decide) (by decide) : agX [] 42 σ (zi (zi (zini (zini σ 43 0) 44 16) 43 1 0) 42 0 v1)).tr2 hz.ag (by decide) (by decide) (by decide) (by decide), ?_⟩
  rintro x ⟨hG, hxl, hns, hn0⟩ kk
  subst hxl
  refine z_ini 43 0 (by decide) ?_
  refine z_new (pc := 0) (A' := A + 2) (B' := B + 20) (ci := 10) (fl := [(3, 0), (0, 0), (0, 0), (0, 0)]) (i := 43) hG zc_J4 inJ4 tyJ4 tyJ4_ok w801 w802 w12 rfl (by decide) (zbl_all (M := 43) (by decide +kernel) (by decide) (by decide)) (fun k => congrFun zini_s k) rfl hfsJ4 rfl rfl (dl' := zW1 ++ [zB0]) rfl rfl rfl dL_text_0 ?_
  refine z_dup (pc := 3) hG rfl dL_text_3 ?_
  refine z_spec (pc := 4) (A' := A + 1) (B' := B + 4) (rest := [.ref 43]) hG 44 [] (c_sb43 hl0) zy_J4_init_da8c8 rfl w804 w803 dL_text_4 rfl (Nat.le_of_ble_eq_true rfl) (by decide) (by decide) rfl rfl rfl rfl (Nat.le_of_ble_eq_true rfl) rfl ?_
  refine z_astore_n (pc := 7) (ls' := [(1, .ref 43), (0, .ref 42)]) hG [0, 1] rfl (by decide) rfl dL_text_7 ?_
  refine z_iconst (pc := 8) (v := (2 : Int32)) hG (by decide) dL_text_8 ?_
  refine z_aload_n (pc := 9) hG 1 rfl rfl dL_text_9 ?_
  refine z_iconst (pc := 10) (v := (3 : Int32)) hG (by decide) dL_text_10 ?_
  refine z_virtS (pc := 11) (A' := A + 1) (B' := B + 4) (st2 := [.int ((nI r1)), .int ((2 : Int32))]) (v := some (.int ((nI r1)))) hG [.int ((3 : Int32))] [.int ((2 : Int32))] zc_X11 zW3_42 (c1) zy_X11_of ⟨w833, w834⟩ w832 dL_text_11 rfl (Nat.le_of_ble_eq_true rfl) (Nat.le_refl _) (zand rfl rfl) (zand zo43_3 (zand zo42_3 rfl)) rfl rfl (Nat.le_of_ble_eq_true rfl) rfl rfl ?_
  refine z_iadd (pc := 14) hG dL_text_14 ?_
  rw [show ((2 : Int32) + (nI r1)) = (nI (2 + r1)) from nI_add 2 r1]
  refine z_istore_n (pc := 15) (ls' := [(2, .int ((nI (2 + r1)))), (1, .ref 43), (0, .ref 42)]) hG [0, 1, 2] rfl (by decide) rfl dL_text_15 ?_
  refine z_iload_n (pc := 16) hG 0 rfl rfl dL_text_16 ?_
  refine z_ini 45 (2 + r1) (by decide) ?_
  refine z_newa (pc := 17) (A' := A) (B' := B + (2 - r1)) (atype := .int) (t := 0) (N := 2 + r1) (z := (2 + r1, .inl (fun _ => 0))) hG wa_int rfl (fun _ => rfl) rfl (fun _ _ => Iff.rfl) (i := 45) rfl (by decide) (zbl_all (M := 45) (by decide +kernel) (by decide) (by decide)) (dsc := .inr (6, 0)) (fun ad ca => by show (Sum.inl (ca 0, zLn (zini (zi (zi (zini (zini σ 43 0) 44 16) 43 1 0) 42 0 v1) 45 (2 + r1)) 45, Sum.inl ((zini (zi (zi (zini (zini σ 43 0) 44 16) 43 1 0) 42 0 v1) 45 (2 + r1)).1 45)) : va_E) = _; rw [zini_s, zini_L (by omega)]) (fun _ => rfl) (nI_pos (by omega)) (nI_clamp (by omega)) (by show (2 + r1) * 4 ≤ 536870912; omega) rfl rfl (dl' := zW4) rfl rfl (by omega) dL_text_17 ?_
  refine z_astore_n (pc := 19) (ls' := [(3, .ref 45), (2, .int ((nI (2 + r1)))), (1, .ref 43), (0, .ref 42)]) hG [0, 1, 2, 3] rfl (by decide) rfl dL_text_19 ?_
  refine z_iconst (pc := 20) (v := (0 : Int32)) hG (by decide) dL_text_20 ?_
  refine z_istore (pc := 21) (ls' := [(4, .int ((0 : Int32))), (3, .ref 45), (2, .int ((nI (2 + r1)))), (1, .ref 43), (0, .ref 42)]) hG [0, 1, 2, 3, 4] (by decide) rfl dL_text_21 ?_
  exact z_wk (Nat.le_refl _) (Nat.le_add_right _ _) kk
theorem c_txt {l : Launch} (hl0 : l.flags = flags0) {σ : zS} : ∃ σ' T, txG T ∧ zstL σ' 46 47 T ∧ agX [] 42 σ σ' ∧ zCg l yL_text cL_text 8 (Option.some (Jvm.ClassFile.FieldType.object "java/lang/String")) 9 440 320000 [.ref 42] zW1 σ (.inl (some (.ref 46)), zWt, σ') := by
  obtain ⟨σ0, n, hn2, hn4, hM0, L0, g0, k0⟩ := tx_beg hl0 (σ := σ) (A := 437) (B := 319976)
  obtain ⟨σ1, many, T1, K1, hm, hM1, L1, hl1, hT1, hb1, g1, k1⟩ := tx_fields hl0 hn4 n 0 (fun _ => 0) σ0 [] 0 (by omega) hM0 (fun e he => absurd he (Nat.not_lt_zero e)) L0 (by decide) (gS_0 sh_0) (Or.inl rfl) (437 - 7 * n) (319976 - 7000 * n)
  obtain ⟨σ2, T2, K2, G, L2, hl2, hT2, hb2, g2, k2⟩ := tx_group hl0 (n := n) ⟨hn2, hn4⟩ hm L1 (by omega) hT1 hb1 (A := 437 - 7 * n - 3) (B := 319976 - 7000 * n - 3000)
  have hM2 := mnR_ag g2 (by decide) (by decide) hM1
  obtain ⟨σ3, m, hm5, L3, g3, k3⟩ := tx_G hl0 (n := n) L2 (by omega) (A := 437 - 7 * n - 3) (B := 319976 - 7000 * n - 3000)
  have hM3 := mnR_ag g3 (by decide) (by decide) hM2
  obtain ⟨σ4, T4, K4, hM4, L4, hl4, hT4, hb4, g4, k4⟩ := tx_edits hl0 (m := m) (G := G) ⟨hn2, hn4⟩ hm5 hm m 0 σ3 T2 K2 (by omega) hM3 L3 (by omega) hT2 hb2 (437 - 7 * n - 3 - 33 * m) (319976 - 7000 * n - 3000 - 27048 * m)
  obtain ⟨σ5, p, hp, L5, g5, k5⟩ := tx_M hl0 (n := n) (m := m) L4 (by omega) (A := 437 - 7 * n - 3 - 33 * m) (B := 319976 - 7000 * n - 3000 - 27048 * m)
  have hM5 := mnR_ag g5 (by decide) (by decide) hM4
  obtain ⟨σ6, T6, hG6, U6, g6, k6⟩ := tx_rows hl0 (m := m) (G := G) (e := m) ⟨hn2, hn4⟩ hm hp (by omega) p 0 σ5 T4 K4 (by omega) hM5 L5 (by omega) hT4 hb4 0 0
  have ga : agX [] 42 σ σ1 := g0.tr2 g1 (by decide) (by decide) (by decide) (by decide)
  have gb : agX [] 42 σ σ3 := (ga.tr2 g2 (by decide) (by decide) (by decide) (by decide) : agX [] 42 σ σ2).tr2 g3 (by decide) (by decide) (by decide) (by decide)
  have gc : agX [] 42 σ σ5 := (gb.tr2 g4 (by decide) (by decide) (by decide) (by decide) : agX [] 42 σ σ4).tr2 g5 (by decide) (by decide) (by decide) (by decide)
  refine ⟨σ6, T6, hG6, U6, gc.tr2 g6 (by decide) (by decide) (by decide) (by decide), ?_⟩
  refine zCg_of hl0 rfl (Nat.le_of_ble_eq_true rfl) (fun x hG hxl hk hns hn0 => ?_)
  have hx : zHx l cL_text 8 (Option.some (Jvm.ClassFile.FieldType.object "java/lang/String")) 43 x := ⟨hG, hxl, hns, hn0.trans rfl⟩
  refine k0 x hx (z_wk (A' := 437 - 7 * n + 7 * n) (B' := 319976 - 7000 * n + 7000 * n) (by omega) (by omega) (k1 x hx (z_wk (A' := 437 - 7 * n - 3 + 3) (B' := 319976 - 7000 * n - 3000 + 3000) (by omega) (by omega) (k2 x hx (k3 x hx (z_wk (A' := 437 - 7 * n - 3 - 33 * m + 33 * m) (B' := 319976 - 7000 * n - 3000 - 27048 * m + 27048 * m) (by omega) (by omega) (k4 x hx (k5 x hx (z_wk (A' := 0 + 2 + 34 * p) (B' := 0 + 1004 + 22096 * p) (by omega) (by omega) (k6 x hx hk))))))))))
