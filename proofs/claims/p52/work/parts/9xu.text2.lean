/-! ===== text: the stretches of the group, the edits, the rows ===== -/
theorem zW6_42b : zW6[42]? = some zDi := by rfl
theorem zW6_43 : zW6[43]? = some (zSB 44) := by rfl
theorem zW6_45 : zW6[45]? = some (.inr (6, 0)) := by rfl
theorem zo43_6 : zoks zW6.length (.ref 43) = true := by rfl
theorem zo45_6 : zoks zW6.length (.ref 45) = true := by rfl
theorem zk43_6 : zok zW6.length (.ref 43) = true := by rfl
theorem zk45_6 : zok zW6.length (.ref 45) = true := by rfl
theorem zk42_8 : zok zW8.length (.ref 42) = true := by rfl
theorem zk43_8 : zok zW8.length (.ref 43) = true := by rfl
theorem zk45_8 : zok zW8.length (.ref 45) = true := by rfl
theorem zk48_8 : zok zW8.length (.ref 48) = true := by rfl
theorem b_ne {a r n : Nat} (ha : a < n) (hr : r < n - 1) : (a + 1 + r) % n ≠ a ∧ (a + 1 + r) % n < n := by
  refine ⟨fun h => ?_, Nat.mod_lt _ (by omega)⟩
  by_cases h1 : a + 1 + r < n
  · rw [Nat.mod_eq_of_lt h1] at h
    omega
  · rw [Nat.mod_eq_sub_mod (by omega), Nat.mod_eq_of_lt (by omega)] at h
    omega
theorem tx_E {l : Launch} (hl0 : l.flags = flags0) {n : Nat} {T : List Nat} {σ : zS} (hL : sbL σ 43 44 T) (hln : T.length + 60 ≤ 499) {A B : Nat} : ∃ σ' r, r < 3 ∧ sbL σ' 43 44 (T) ∧ agX [42, 43, 44] 46 σ σ' ∧ ∀ x, zHx l cL_text 8 (Option.some (Jvm.ClassFile.FieldType.object "java/lang/String")) 43 x → zK x 9 124 [(3, .ref 45), (2, .int (nI n)), (1, .ref 43), (0, .ref 42)] [.int (nI r)] zW4 σ' A B → zK x 9 23 [(4, .int (nI n)), (3, .ref 45), (2, .int (nI n)), (1, .ref 43), (0, .ref 42)] [] zW4 σ (A) (B) := by
  obtain ⟨r1, v1, hr1, c1⟩ := c_of hl0 (dl := zW4) (σ := σ) (d := 42) (m := 3) zW4_42 (by decide) (by decide)
  have L1 : sbL (zi σ 42 0 v1) 43 44 (T) := sbL_ag (zi_ag (N := 60)) (by decide) (by decide) (by decide) (by decide) hL
  have G2 : agX [42, 43, 44] 46 σ (zi σ 42 0 v1) := agX.tr2 (agX.rf (X := []) (N := 46)) (zi_ag (N := 60)) (by decide) (by decide) (by decide) (by decide)
  refine ⟨_, r1, hr1, L1, G2, ?_⟩
  rintro x ⟨hG, hxl, hns, hn0⟩ kk
  subst hxl
  refine z_iload (pc := 23) hG 0 rfl dL_text_23 ?_
  refine z_iload_n (pc := 25) hG 2 rfl rfl dL_text_25 ?_
  refine z_icmp_ge (pc := 26) (tgt := 119) hG dL_text_26 rfl (fun _ => ?_) (fun hbr => False.elim (hbr (Int32.le_refl _)))
  refine z_sub [1, 2, 3, 4] rfl ?_
  refine z_aload_n (pc := 119) hG 3 rfl rfl dL_text_119 ?_
  refine z_iconst (pc := 120) (v := (3 : Int32)) hG (by decide) dL_text_120 ?_
  refine z_virtS (pc := 121) (A' := A + 0) (B' := B + 0) (st2 := [.int ((nI r1))]) (v := some (.int ((nI r1)))) hG [.int ((3 : Int32))] [] zc_X11 zW4_42 (c1) zy_X11_of ⟨w833, w834⟩ w832 dL_text_121 rfl (Nat.le_of_ble_eq_true rfl) (Nat.le_refl _) rfl (zand zo45_4 (zand rfl (zand zo43_4 (zand zo42_4 rfl)))) rfl rfl (Nat.le_of_ble_eq_true rfl) rfl rfl ?_
  exact kk
theorem tx_F {l : Launch} (hl0 : l.flags = flags0) {n : Nat} {T : List Nat} {σ : zS} (hn : 2 ≤ n ∧ n ≤ 5) (hL : sbL σ 43 44 T) (hln : T.length + 60 ≤ 499) {A B : Nat} : ∃ σ' f, f < n ∧ sbL σ' 43 44 (T ++ [103, 114, 111, 117, 112, 32] ++ [112 + f] ++ [59]) ∧ agX [42, 43, 44] 46 σ σ' ∧ ∀ x, zHx l cL_text 8 (Option.some (Jvm.ClassFile.FieldType.object "java/lang/String")) 43 x → zK x 9 151 [(3, .ref 45), (2, .int (nI n)), (1, .ref 43), (0, .ref 42)] [] zW4 σ' A B → zK x 9 127 [(3, .ref 45), (2, .int (nI n)), (1, .ref 43), (0, .ref 42)] [] zW4 σ (A + 3) (B + 3000) := by
  obtain ⟨s1, c1, L1, g1⟩ := a_T hl0 zW4_S43 hL (q := 1005) (w := [103, 114, 111, 117, 112, 32]) rfl (by decide) (by simp only [List.length_append, List.length_cons, List.length_nil]; omega)
  have G2 : agX [42, 43, 44] 46 σ s1 := agX.tr2 (agX.rf (X := []) (N := 46)) (g1) (by decide) (by decide) (by decide) (by decide)
  obtain ⟨r3, v3, hr3, c3⟩ := c_of hl0 (dl := zW4) (σ := s1) (d := 42) (m := n) zW4_42 (by omega) (by omega)
  have L3 : sbL (zi s1 42 0 v3) 43 44 (T ++ [103, 114, 111, 117, 112, 32]) := sbL_ag (zi_ag (N := 60)) (by decide) (by decide) (by decide) (by decide) L1
  have G4 : agX [42, 43, 44] 46 σ (zi s1 42 0 v3) := G2.tr2 (zi_ag (N := 60)) (by decide) (by decide) (by decide) (by decide)
  obtain ⟨s5, c5, L5, g5⟩ := a_C hl0 zW4_S43 L3 (k := (112 + r3)) (by omega) (by simp only [List.length_append, List.length_cons, List.length_nil]; omega)
  have G6 : agX [42, 43, 44] 46 σ s5 := G4.tr2 (g5) (by decide) (by decide) (by decide) (by decide)
  obtain ⟨s7, c7, L7, g7⟩ := a_T hl0 zW4_S43 L5 (q := 1004) (w := [59]) rfl (by decide) (by simp only [List.length_append, List.length_cons, List.length_nil]; omega)
  have G8 : agX [42, 43, 44] 46 σ s7 := G6.tr2 (g7) (by decide) (by decide) (by decide) (by decide)
  refine ⟨_, r3, hr3, L7, G8, ?_⟩
  rintro x ⟨hG, hxl, hns, hn0⟩ kk
  subst hxl
  refine z_aload_n (pc := 127) hG 2 rfl rfl dL_text_127 ?_
  refine z_lds (pc := 128) hG (by decide : (RL, 47, "group ", 1005) ∈ zrefs) dL_text_128 ?_
  refine z_virtG (pc := 130) (A' := A + 2) (B' := B + 2000) (st2 := [.ref 43]) (v := some (.ref 43)) hG hns [.ref 1005] [] zc_J4 zW4_43 (c1) zy_J4_append_15ec4 ⟨w839, w840⟩ w838 dL_text_130 rfl (Nat.le_of_ble_eq_true rfl) (Nat.le_refl _) rfl (zand zk45_4 (zand rfl (zand zk43_4 (zand zk42_4 rfl)))) rfl rfl (Nat.le_of_ble_eq_true rfl) rfl rfl ?_
  refine z_bipush (pc := 133) (v := (112 : Int32)) hG (by decide) dL_text_133 ?_
  refine z_aload_n (pc := 135) hG 3 rfl rfl dL_text_135 ?_
  refine z_iload_n (pc := 136) hG 1 rfl rfl dL_text_136 ?_
  refine z_virtS (pc := 137) (A' := A + 2) (B' := B + 2000) (st2 := [.int ((nI r3)), .int ((112 : Int32)), .ref 43]) (v := some (.int ((nI r3)))) hG [.int ((nI n))] [.int ((112 : Int32)), .ref 43] zc_X11 zW4_42 (c3) zy_X11_of ⟨w833, w834⟩ w832 dL_text_137 rfl (Nat.le_of_ble_eq_true rfl) (Nat.le_refl _) (zand rfl (zand zo43_4 rfl)) (zand zo45_4 (zand rfl (zand zo43_4 (zand zo42_4 rfl)))) rfl rfl (Nat.le_of_ble_eq_true rfl) rfl rfl ?_
  refine z_iadd (pc := 140) hG dL_text_140 ?_
  rw [show ((112 : Int32) + (nI r3)) = (nI (112 + r3)) from nI_add 112 r3]
  refine z_i2c (pc := 141) hG dL_text_141 ?_
  rw [show ((nI (112 + r3)).toUInt32 % 65536).toInt32 = (nI (112 + r3)) from i2c_ok (by omega)]
  refine z_virtG (pc := 142) (A' := A + 1) (B' := B + 1000) (st2 := [.ref 43]) (v := some (.ref 43)) hG hns [.int ((nI (112 + r3)))] [] zc_J4 zW4_43 (c5) zy_J4_append_cf468 ⟨w951, w952⟩ w950 dL_text_142 rfl (Nat.le_of_ble_eq_true rfl) (Nat.le_refl _) rfl (zand zk45_4 (zand rfl (zand zk43_4 (zand zk42_4 rfl)))) rfl rfl (Nat.le_of_ble_eq_true rfl) rfl rfl ?_
  refine z_lds (pc := 145) hG (by decide : (RL, 45, ";", 1004) ∈ zrefs) dL_text_145 ?_
  refine z_virtG (pc := 147) (A' := A + 0) (B' := B + 0) (st2 := [.ref 43]) (v := some (.ref 43)) hG hns [.ref 1004] [] zc_J4 zW4_43 (c7) zy_J4_append_15ec4 ⟨w839, w840⟩ w838 dL_text_147 rfl (Nat.le_of_ble_eq_true rfl) (Nat.le_refl _) rfl (zand zk45_4 (zand rfl (zand zk43_4 (zand zk42_4 rfl)))) rfl rfl (Nat.le_of_ble_eq_true rfl) rfl rfl ?_
  refine z_pop (pc := 150) hG rfl dL_text_150 ?_
  exact kk
theorem tx_G {l : Launch} (hl0 : l.flags = flags0) {n : Nat} {T : List Nat} {σ : zS} (hL : sbL σ 43 44 T) (hln : T.length + 60 ≤ 499) {A B : Nat} : ∃ σ' m, m < 5 ∧ sbL σ' 43 44 (T) ∧ agX [42, 43, 44] 46 σ σ' ∧ ∀ x, zHx l cL_text 8 (Option.some (Jvm.ClassFile.FieldType.object "java/lang/String")) 43 x → zK x 9 161 [(5, .int (nI 0)), (4, .int (nI m)), (3, .ref 45), (2, .int (nI n)), (1, .ref 43), (0, .ref 42)] [] zW4 σ' A B → zK x 9 151 [(3, .ref 45), (2, .int (nI n)), (1, .ref 43), (0, .ref 42)] [] zW4 σ (A) (B) := by
  obtain ⟨r1, v1, hr1, c1⟩ := c_of hl0 (dl := zW4) (σ := σ) (d := 42) (m := 5) zW4_42 (by decide) (by decide)
  have L1 : sbL (zi σ 42 0 v1) 43 44 (T) := sbL_ag (zi_ag (N := 60)) (by decide) (by decide) (by decide) (by decide) hL
  have G2 : agX [42, 43, 44] 46 σ (zi σ 42 0 v1) := agX.tr2 (agX.rf (X := []) (N := 46)) (zi_ag (N := 60)) (by decide) (by decide) (by decide) (by decide)
  refine ⟨_, r1, hr1, L1, G2, ?_⟩
  rintro x ⟨hG, hxl, hns, hn0⟩ kk
  subst hxl
  refine z_aload_n (pc := 151) hG 3 rfl rfl dL_text_151 ?_
  refine z_iconst (pc := 152) (v := (5 : Int32)) hG (by decide) dL_text_152 ?_
  refine z_virtS (pc := 153) (A' := A + 0) (B' := B + 0) (st2 := [.int ((nI r1))]) (v := some (.int ((nI r1)))) hG [.int ((5 : Int32))] [] zc_X11 zW4_42 (c1) zy_X11_of ⟨w833, w834⟩ w832 dL_text_153 rfl (Nat.le_of_ble_eq_true rfl) (Nat.le_refl _) rfl (zand zo45_4 (zand rfl (zand zo43_4 (zand zo42_4 rfl)))) rfl rfl (Nat.le_of_ble_eq_true rfl) rfl rfl ?_
  refine z_istore (pc := 156) (ls' := [(4, .int ((nI r1))), (3, .ref 45), (2, .int ((nI n))), (1, .ref 43), (0, .ref 42)]) hG [0, 1, 2, 3, 4] (by decide) rfl dL_text_156 ?_
  refine z_iconst (pc := 158) (v := (0 : Int32)) hG (by decide) dL_text_158 ?_
  refine z_istore (pc := 159) (ls' := [(5, .int ((0 : Int32))), (4, .int ((nI r1))), (3, .ref 45), (2, .int ((nI n))), (1, .ref 43), (0, .ref 42)]) hG [0, 1, 2, 3, 4, 5] (by decide) rfl dL_text_159 ?_
  exact kk
theorem tx_H {l : Launch} (hl0 : l.flags = flags0) {n : Nat} {T : List Nat} {σ : zS} {e m : Nat} (hn : 2 ≤ n ∧ n ≤ 5) (he : e < m) (hm5 : m < 5) (hL : sbL σ 43 44 T) (hln : T.length + 60 ≤ 499) {A B : Nat} : ∃ σ' a b, (a < n ∧ (b < n ∧ b ≠ a)) ∧ sbL σ' 43 44 (T ++ [101, 100, 105, 116, 32] ++ [112 + a] ++ [32, 105, 110, 32]) ∧ agX [42, 43, 44] 46 σ σ' ∧ ∀ x, zHx l cL_text 8 (Option.some (Jvm.ClassFile.FieldType.object "java/lang/String")) 43 x → zK x 9 211 [(7, .int (nI b)), (6, .int (nI a)), (5, .int (nI e)), (4, .int (nI m)), (3, .ref 45), (2, .int (nI n)), (1, .ref 43), (0, .ref 42)] [.ref 43] zW4 σ' A B → zK x 9 161 [(5, .int (nI e)), (4, .int (nI m)), (3, .ref 45), (2, .int (nI n)), (1, .ref 43), (0, .ref 42)] [] zW4 σ (A + 3) (B + 3000) := by
  obtain ⟨r1, v1, hr1, c1⟩ := c_of hl0 (dl := zW4) (σ := σ) (d := 42) (m := n) zW4_42 (by omega) (by omega)
  have L1 : sbL (zi σ 42 0 v1) 43 44 (T) := sbL_ag (zi_ag (N := 60)) (by decide) (by decide) (by decide) (by decide) hL
  have G2 : agX [42, 43, 44] 46 σ (zi σ 42 0 v1) := agX.tr2 (agX.rf (X := []) (N := 46)) (zi_ag (N := 60)) (by decide) (by decide) (by decide) (by decide)
  obtain ⟨r3, v3, hr3, c3⟩ := c_of hl0 (dl := zW4) (σ := zi σ 42 0 v1) (d := 42) (m := (n - 1)) zW4_42 (by omega) (by omega)
  have L3 : sbL (zi (zi σ 42 0 v1) 42 0 v3) 43 44 (T) := sbL_ag (zi_ag (N := 60)) (by decide) (by decide) (by decide) (by decide) L1
  have G4 : agX [42, 43, 44] 46 σ (zi (zi σ 42 0 v1) 42 0 v3) := G2.tr2 (zi_ag (N := 60)) (by decide) (by decide) (by decide) (by decide)
  obtain ⟨s5, c5, L5, g5⟩ := a_T hl0 zW4_S43 L3 (q := 1006) (w := [101, 100, 105, 116, 32]) rfl (by decide) (by simp only [List.length_append, List.length_cons, List.length_nil]; omega)
  have G6 : agX [42, 43, 44] 46 σ s5 := G4.tr2 (g5) (by decide) (by decide) (by decide) (by decide)
  obtain ⟨s7, c7, L7, g7⟩ := a_C hl0 zW4_S43 L5 (k := (112 + r1)) (by omega) (by simp only [List.length_append, List.length_cons, List.length_nil]; omega)
  have G8 : agX [42, 43, 44] 46 σ s7 := G6.tr2 (g7) (by decide) (by decide) (by decide) (by decide)
  obtain ⟨s9, c9, L9, g9⟩ := a_T hl0 zW4_S43 L7 (q := 1007) (w := [32, 105, 110, 32]) rfl (by decide) (by simp only [List.length_append, List.length_cons, List.length_nil]; omega)
  have G10 : agX [42, 43, 44] 46 σ s9 := G8.tr2 (g9) (by decide) (by decide) (by decide) (by decide)
  refine ⟨_, r1, ((r1 + 1 + r3) % n), ⟨hr1, ⟨(b_ne hr1 hr3).2, (b_ne hr1 hr3).1⟩⟩, L9, G10, ?_⟩
  rintro x ⟨hG, hxl, hns, hn0⟩ kk
  subst hxl
  refine z_iload (pc := 161) hG 0 rfl dL_text_161 ?_
  refine z_iload (pc := 163) hG 1 rfl dL_text_163 ?_
  refine z_icmp_ge (pc := 165) (tgt := 276) hG dL_text_165 rfl (fun hbr => False.elim ((fun h => (nI_nle2 he (by omega)) h) hbr)) (fun _ => ?_)
  refine z_aload_n (pc := 168) hG 5 rfl rfl dL_text_168 ?_
  refine z_iload_n (pc := 169) hG 3 rfl rfl dL_text_169 ?_
  refine z_virtS (pc := 170) (A' := A + 3) (B' := B + 3000) (st2 := [.int ((nI r1))]) (v := some (.int ((nI r1)))) hG [.int ((nI n))] [] zc_X11 zW4_42 (c1) zy_X11_of ⟨w833, w834⟩ w832 dL_text_170 rfl (Nat.le_of_ble_eq_true rfl) (Nat.le_refl _) rfl (zand rfl (zand rfl (zand zo45_4 (zand rfl (zand zo43_4 (zand zo42_4 rfl)))))) rfl rfl (Nat.le_of_ble_eq_true rfl) rfl rfl ?_
  refine z_istore (pc := 173) (ls' := [(6, .int ((nI r1))), (5, .int ((nI e))), (4, .int ((nI m))), (3, .ref 45), (2, .int ((nI n))), (1, .ref 43), (0, .ref 42)]) hG [0, 1, 2, 3, 4, 5, 6] (by decide) rfl dL_text_173 ?_
  refine z_iload (pc := 175) hG 0 rfl dL_text_175 ?_
  refine z_iconst (pc := 177) (v := (1 : Int32)) hG (by decide) dL_text_177 ?_
  refine z_iadd (pc := 178) hG dL_text_178 ?_
  rw [show ((nI r1) + (1 : Int32)) = (nI (r1 + 1)) from nI_s r1]
  refine z_aload_n (pc := 179) hG 6 rfl rfl dL_text_179 ?_
  refine z_iload_n (pc := 180) hG 4 rfl rfl dL_text_180 ?_
  refine z_iconst (pc := 181) (v := (1 : Int32)) hG (by decide) dL_text_181 ?_
  refine z_isub (pc := 182) hG dL_text_182 ?_
  rw [show ((nI n) - (1 : Int32)) = (nI (n - 1)) from nI_sub (b := 1) (by omega)]
  refine z_virtS (pc := 183) (A' := A + 3) (B' := B + 3000) (st2 := [.int ((nI r3)), .int ((nI (r1 + 1)))]) (v := some (.int ((nI r3)))) hG [.int ((nI (n - 1)))] [.int ((nI (r1 + 1)))] zc_X11 zW4_42 (c3) zy_X11_of ⟨w833, w834⟩ w832 dL_text_183 rfl (Nat.le_of_ble_eq_true rfl) (Nat.le_refl _) (zand rfl rfl) (zand rfl (zand rfl (zand rfl (zand zo45_4 (zand rfl (zand zo43_4 (zand zo42_4 rfl))))))) rfl rfl (Nat.le_of_ble_eq_true rfl) rfl rfl ?_
  refine z_iadd (pc := 186) hG dL_text_186 ?_
  rw [show ((nI (r1 + 1)) + (nI r3)) = (nI (r1 + 1 + r3)) from nI_add (r1 + 1) r3]
  refine z_iload_n (pc := 187) hG 4 rfl rfl dL_text_187 ?_
  refine z_irem (pc := 188) hG (nI_neq (by omega) (by decide) (by omega) : ¬ nI n = nI 0) dL_text_188 ?_
  rw [show ((nI (r1 + 1 + r3)) - (nI (r1 + 1 + r3)) / (nI n) * (nI n)) = (nI ((r1 + 1 + r3) % n)) from pk_rem (by omega) (by omega) (by omega)]
  refine z_istore (pc := 189) (ls' := [(7, .int ((nI ((r1 + 1 + r3) % n)))), (6, .int ((nI r1))), (5, .int ((nI e))), (4, .int ((nI m))), (3, .ref 45), (2, .int ((nI n))), (1, .ref 43), (0, .ref 42)]) hG [0, 1, 2, 3, 4, 5, 6, 7] (by decide) rfl dL_text_189 ?_
  refine z_aload_n (pc := 191) hG 6 rfl rfl dL_text_191 ?_
  refine z_lds (pc := 192) hG (by decide : (RL, 49, "edit ", 1006) ∈ zrefs) dL_text_192 ?_
  refine z_virtG (pc := 194) (A' := A + 2) (B' := B + 2000) (st2 := [.ref 43]) (v := some (.ref 43)) hG hns [.ref 1006] [] zc_J4 zW4_43 (c5) zy_J4_append_15ec4 ⟨w839, w840⟩ w838 dL_text_194 rfl (Nat.le_of_ble_eq_true rfl) (Nat.le_refl _) rfl (zand rfl (zand rfl (zand rfl (zand rfl (zand zk45_4 (zand rfl (zand zk43_4 (zand zk42_4 rfl)))))))) rfl rfl (Nat.le_of_ble_eq_true rfl) rfl rfl ?_
  refine z_bipush (pc := 197) (v := (112 : Int32)) hG (by decide) dL_text_197 ?_
  refine z_iload (pc := 199) hG 1 rfl dL_text_199 ?_
  refine z_iadd (pc := 201) hG dL_text_201 ?_
  rw [show ((112 : Int32) + (nI r1)) = (nI (112 + r1)) from nI_add 112 r1]
  refine z_i2c (pc := 202) hG dL_text_202 ?_
  rw [show ((nI (112 + r1)).toUInt32 % 65536).toInt32 = (nI (112 + r1)) from i2c_ok (by omega)]
  refine z_virtG (pc := 203) (A' := A + 1) (B' := B + 1000) (st2 := [.ref 43]) (v := some (.ref 43)) hG hns [.int ((nI (112 + r1)))] [] zc_J4 zW4_43 (c7) zy_J4_append_cf468 ⟨w951, w952⟩ w950 dL_text_203 rfl (Nat.le_of_ble_eq_true rfl) (Nat.le_refl _) rfl (zand rfl (zand rfl (zand rfl (zand rfl (zand zk45_4 (zand rfl (zand zk43_4 (zand zk42_4 rfl)))))))) rfl rfl (Nat.le_of_ble_eq_true rfl) rfl rfl ?_
  refine z_lds (pc := 206) hG (by decide : (RL, 51, " in ", 1007) ∈ zrefs) dL_text_206 ?_
  refine z_virtG (pc := 208) (A' := A + 0) (B' := B + 0) (st2 := [.ref 43]) (v := some (.ref 43)) hG hns [.ref 1007] [] zc_J4 zW4_43 (c9) zy_J4_append_15ec4 ⟨w839, w840⟩ w838 dL_text_208 rfl (Nat.le_of_ble_eq_true rfl) (Nat.le_refl _) rfl (zand rfl (zand rfl (zand rfl (zand rfl (zand zk45_4 (zand rfl (zand zk43_4 (zand zk42_4 rfl)))))))) rfl rfl (Nat.le_of_ble_eq_true rfl) rfl rfl ?_
  exact kk
theorem sps_len (v u : Nat) (h : Bool) (o : Option (Nat × Nat × Bool)) : (sps v u h o).length ≤ 7 := by
  have h1 : ∀ v u h, (sb v u h).length ≤ 3 := fun v u h => by cases h <;> simp [sb]
  rcases o with _ | ⟨v', u', h'⟩
  · have := h1 v u h
    show (sb v u h).length ≤ 7
    omega
  · have := h1 v u h
    have := h1 v' u' h'
    show (sb v u h ++ 44 :: sb v' u' h').length ≤ 7
    rw [List.length_append, List.length_cons]
    omega
theorem tx_I1 {l : Launch} (hl0 : l.flags = flags0) {n : Nat} {T : List Nat} {σ : zS} {e m a b : Nat} {many : Nat → Nat} (hf : a < n) (hn : n ≤ 5) (hM : mnR σ n n many) (hq : 2 ≤ many a ∧ many a ≤ 5) (hL : sbL σ 43 44 T) (hln : T.length + 10 ≤ 499) {A B : Nat} : ∃ σ' v u h o, spsO (many a - 1) v u h o ∧ sbL σ' 43 44 (T ++ sps v u h o) ∧ agX [42, 43, 44] 46 σ σ' ∧ ∀ x, zHx l cL_text 8 (Option.some (Jvm.ClassFile.FieldType.object "java/lang/String")) 43 x → zK x 9 223 [(7, .int (nI b)), (6, .int (nI a)), (5, .int (nI e)), (4, .int (nI m)), (3, .ref 45), (2, .int (nI n)), (1, .ref 43), (0, .ref 42)] [] zW4 σ' A B → zK x 9 211 [(7, .int (nI b)), (6, .int (nI a)), (5, .int (nI e)), (4, .int (nI m)), (3, .ref 45), (2, .int (nI n)), (1, .ref 43), (0, .ref 42)] [.ref 43] zW4 σ (A + 13) (B + 10024) := by
  obtain ⟨s1, v, u, h, o, ho, hU, g1, hC⟩ := c_span hl0 hq (σ := σ)
  have L1 : sbL s1 43 44 T := sbL_ag g1 (by decide) (by decide) (by decide) (by decide) hL
  obtain ⟨s2, c2, L2, g2⟩ := a_M hl0 zW8_S43 L1 zW8_M48 hU (by decide) (by have := sps_len v u h o; omega)
  refine ⟨s2, v, u, h, o, ho, L2, g1.tr2 g2 (by decide) (by decide) (by decide) (by decide), ?_⟩
  rintro x ⟨hG, hxl, hns, hn0⟩ kk
  subst hxl
  refine z_aload_n (pc := 211) hG 7 rfl rfl dL_text_211 ?_
  refine z_aload_n (pc := 212) hG 4 rfl rfl dL_text_212 ?_
  refine z_iload (pc := 213) hG 1 rfl dL_text_213 ?_
  refine z_ald6 (pc := 215) hG zW4_45 (vp_in_nI (show a < zLn σ 45 by rw [hM.1]; exact hf) (by rw [hM.1]; omega)) dL_text_215 ?_
  rw [nI_clamp (show a < 2 ^ 31 by omega), hM.2 a hf]
  refine z_statG (pc := 216) (A' := A + 1) (B' := B + 1000) (st2 := [.ref 48, .ref 43]) (v := some (.ref 48)) hG hns [.ref 42, .int (nI (many a))] [.ref 43] hC zy_L_span w1005 w1004 dL_text_216 rfl (Nat.le_of_ble_eq_true rfl) (by decide) (zand zk43_4 rfl) (zand rfl (zand rfl (zand rfl (zand rfl (zand zk45_4 (zand rfl (zand zk43_4 (zand zk42_4 rfl)))))))) (by omega) (by omega) (Nat.le_of_ble_eq_true rfl) rfl rfl ?_
  refine z_virtG (pc := 219) (A' := A) (B' := B) (st2 := [.ref 43]) (v := some (.ref 43)) hG hns [.ref 48] [] zc_J4 zW8_43 (c2) zy_J4_append_15ec4 ⟨w839, w840⟩ w838 dL_text_219 rfl (Nat.le_of_ble_eq_true rfl) (Nat.le_refl _) rfl (zand rfl (zand rfl (zand rfl (zand rfl (zand zk45_8 (zand rfl (zand zk43_8 (zand zk42_8 rfl)))))))) rfl rfl (Nat.le_of_ble_eq_true rfl) rfl rfl ?_
  refine z_pop (pc := 222) hG rfl dL_text_222 ?_
  refine z_drop (dl := zW6) (by rw [hn0]; decide) ?_
  refine z_drop (dl := zW4) (by rw [hn0]; decide) ?_
  exact kk
theorem tx_I2 {l : Launch} (hl0 : l.flags = flags0) {n : Nat} {T : List Nat} {σ : zS} {e m a b : Nat} {many : Nat → Nat} (hf : b < n) (hn : n ≤ 5) (hM : mnR σ n n many) (hq : 2 ≤ many b ∧ many b ≤ 5) (hL : sbL σ 43 44 T) (hln : T.length + 10 ≤ 499) {A B : Nat} : ∃ σ' v u h o, spsO (many b - 1) v u h o ∧ sbL σ' 43 44 (T ++ sps v u h o) ∧ agX [42, 43, 44] 46 σ σ' ∧ ∀ x, zHx l cL_text 8 (Option.some (Jvm.ClassFile.FieldType.object "java/lang/String")) 43 x → zK x 9 263 [(7, .int (nI b)), (6, .int (nI a)), (5, .int (nI e)), (4, .int (nI m)), (3, .ref 45), (2, .int (nI n)), (1, .ref 43), (0, .ref 42)] [] zW4 σ' A B → zK x 9 251 [(7, .int (nI b)), (6, .int (nI a)), (5, .int (nI e)), (4, .int (nI m)), (3, .ref 45), (2, .int (nI n)), (1, .ref 43), (0, .ref 42)] [.ref 43] zW4 σ (A + 13) (B + 10024) := by
  obtain ⟨s1, v, u, h, o, ho, hU, g1, hC⟩ := c_span hl0 hq (σ := σ)
  have L1 : sbL s1 43 44 T := sbL_ag g1 (by decide) (by decide) (by decide) (by decide) hL
  obtain ⟨s2, c2, L2, g2⟩ := a_M hl0 zW8_S43 L1 zW8_M48 hU (by decide) (by have := sps_len v u h o; omega)
  refine ⟨s2, v, u, h, o, ho, L2, g1.tr2 g2 (by decide) (by decide) (by decide) (by decide), ?_⟩
  rintro x ⟨hG, hxl, hns, hn0⟩ kk
  subst hxl
  refine z_aload_n (pc := 251) hG 7 rfl rfl dL_text_251 ?_
  refine z_aload_n (pc := 252) hG 4 rfl rfl dL_text_252 ?_
  refine z_iload (pc := 253) hG 0 rfl dL_text_253 ?_
  refine z_ald6 (pc := 255) hG zW4_45 (vp_in_nI (show b < zLn σ 45 by rw [hM.1]; exact hf) (by rw [hM.1]; omega)) dL_text_255 ?_
  rw [nI_clamp (show b < 2 ^ 31 by omega), hM.2 b hf]
  refine z_statG (pc := 256) (A' := A + 1) (B' := B + 1000) (st2 := [.ref 48, .ref 43]) (v := some (.ref 48)) hG hns [.ref 42, .int (nI (many b))] [.ref 43] hC zy_L_span w1005 w1004 dL_text_256 rfl (Nat.le_of_ble_eq_true rfl) (by decide) (zand zk43_4 rfl) (zand rfl (zand rfl (zand rfl (zand rfl (zand zk45_4 (zand rfl (zand zk43_4 (zand zk42_4 rfl)))))))) (by omega) (by omega) (Nat.le_of_ble_eq_true rfl) rfl rfl ?_
  refine z_virtG (pc := 259) (A' := A) (B' := B) (st2 := [.ref 43]) (v := some (.ref 43)) hG hns [.ref 48] [] zc_J4 zW8_43 (c2) zy_J4_append_15ec4 ⟨w839, w840⟩ w838 dL_text_259 rfl (Nat.le_of_ble_eq_true rfl) (Nat.le_refl _) rfl (zand rfl (zand rfl (zand rfl (zand rfl (zand zk45_8 (zand rfl (zand zk43_8 (zand zk42_8 rfl)))))))) rfl rfl (Nat.le_of_ble_eq_true rfl) rfl rfl ?_
  refine z_pop (pc := 262) hG rfl dL_text_262 ?_
  refine z_drop (dl := zW6) (by rw [hn0]; decide) ?_
  refine z_drop (dl := zW4) (by rw [hn0]; decide) ?_
  exact kk
theorem tx_J {l : Launch} (hl0 : l.flags = flags0) {n : Nat} {T : List Nat} {σ : zS} {e m a b : Nat} (hL : sbL σ 43 44 T) (hln : T.length + 60 ≤ 499) {A B : Nat} : ∃ σ' r, r < 5 ∧ sbL σ' 43 44 (T) ∧ agX [42, 43, 44] 46 σ σ' ∧ ∀ x, zHx l cL_text 8 (Option.some (Jvm.ClassFile.FieldType.object "java/lang/String")) 43 x → zK x 9 228 [(7, .int (nI b)), (6, .int (nI a)), (5, .int (nI e)), (4, .int (nI m)), (3, .ref 45), (2, .int (nI n)), (1, .ref 43), (0, .ref 42)] [.int (nI r)] zW4 σ' A B → zK x 9 223 [(7, .int (nI b)), (6, .int (nI a)), (5, .int (nI e)), (4, .int (nI m)), (3, .ref 45), (2, .int (nI n)), (1, .ref 43), (0, .ref 42)] [] zW4 σ (A) (B) := by
  obtain ⟨r1, v1, hr1, c1⟩ := c_of hl0 (dl := zW4) (σ := σ) (d := 42) (m := 5) zW4_42 (by decide) (by decide)
  have L1 : sbL (zi σ 42 0 v1) 43 44 (T) := sbL_ag (zi_ag (N := 60)) (by decide) (by decide) (by decide) (by decide) hL
  have G2 : agX [42, 43, 44] 46 σ (zi σ 42 0 v1) := agX.tr2 (agX.rf (X := []) (N := 46)) (zi_ag (N := 60)) (by decide) (by decide) (by decide) (by decide)
  refine ⟨_, r1, hr1, L1, G2, ?_⟩
  rintro x ⟨hG, hxl, hns, hn0⟩ kk
  subst hxl
  refine z_aload_n (pc := 223) hG 7 rfl rfl dL_text_223 ?_
  refine z_iconst (pc := 224) (v := (5 : Int32)) hG (by decide) dL_text_224 ?_
  refine z_virtS (pc := 225) (A' := A + 0) (B' := B + 0) (st2 := [.int ((nI r1))]) (v := some (.int ((nI r1)))) hG [.int ((5 : Int32))] [] zc_X11 zW4_42 (c1) zy_X11_of ⟨w833, w834⟩ w832 dL_text_225 rfl (Nat.le_of_ble_eq_true rfl) (Nat.le_refl _) rfl (zand rfl (zand rfl (zand rfl (zand rfl (zand zo45_4 (zand rfl (zand zo43_4 (zand zo42_4 rfl)))))))) rfl rfl (Nat.le_of_ble_eq_true rfl) rfl rfl ?_
  exact kk
theorem tx_K {l : Launch} (hl0 : l.flags = flags0) {n : Nat} {T : List Nat} {σ : zS} {e m a b : Nat} (hb : b < 5) (hL : sbL σ 43 44 T) (hln : T.length + 60 ≤ 499) {A B : Nat} : ∃ σ' , True ∧ sbL σ' 43 44 (T ++ [32, 97, 110, 100, 32] ++ [112 + b] ++ [32, 105, 110, 32]) ∧ agX [42, 43, 44] 46 σ σ' ∧ ∀ x, zHx l cL_text 8 (Option.some (Jvm.ClassFile.FieldType.object "java/lang/String")) 43 x → zK x 9 251 [(7, .int (nI b)), (6, .int (nI a)), (5, .int (nI e)), (4, .int (nI m)), (3, .ref 45), (2, .int (nI n)), (1, .ref 43), (0, .ref 42)] [.ref 43] zW4 σ' A B → zK x 9 231 [(7, .int (nI b)), (6, .int (nI a)), (5, .int (nI e)), (4, .int (nI m)), (3, .ref 45), (2, .int (nI n)), (1, .ref 43), (0, .ref 42)] [] zW4 σ (A + 3) (B + 3000) := by
  obtain ⟨s1, c1, L1, g1⟩ := a_T hl0 zW4_S43 hL (q := 1011) (w := [32, 97, 110, 100, 32]) rfl (by decide) (by simp only [List.length_append, List.length_cons, List.length_nil]; omega)
  have G2 : agX [42, 43, 44] 46 σ s1 := agX.tr2 (agX.rf (X := []) (N := 46)) (g1) (by decide) (by decide) (by decide) (by decide)
  obtain ⟨s3, c3, L3, g3⟩ := a_C hl0 zW4_S43 L1 (k := (112 + b)) (by omega) (by simp only [List.length_append, List.length_cons, List.length_nil]; omega)
  have G4 : agX [42, 43, 44] 46 σ s3 := G2.tr2 (g3) (by decide) (by decide) (by decide) (by decide)
  obtain ⟨s5, c5, L5, g5⟩ := a_T hl0 zW4_S43 L3 (q := 1007) (w := [32, 105, 110, 32]) rfl (by decide) (by simp only [List.length_append, List.length_cons, List.length_nil]; omega)
  have G6 : agX [42, 43, 44] 46 σ s5 := G4.tr2 (g5) (by decide) (by decide) (by decide) (by decide)
  refine ⟨_, trivial, L5, G6, ?_⟩
  rintro x ⟨hG, hxl, hns, hn0⟩ kk
  subst hxl
  refine z_aload_n (pc := 231) hG 6 rfl rfl dL_text_231 ?_
  refine z_lds (pc := 232) hG (by decide : (RL, 59, " and ", 1011) ∈ zrefs) dL_text_232 ?_
  refine z_virtG (pc := 234) (A' := A + 2) (B' := B + 2000) (st2 := [.ref 43]) (v := some (.ref 43)) hG hns [.ref 1011] [] zc_J4 zW4_43 (c1) zy_J4_append_15ec4 ⟨w839, w840⟩ w838 dL_text_234 rfl (Nat.le_of_ble_eq_true rfl) (Nat.le_refl _) rfl (zand rfl (zand rfl (zand rfl (zand rfl (zand zk45_4 (zand rfl (zand zk43_4 (zand zk42_4 rfl)))))))) rfl rfl (Nat.le_of_ble_eq_true rfl) rfl rfl ?_
  refine z_bipush (pc := 237) (v := (112 : Int32)) hG (by decide) dL_text_237 ?_
  refine z_iload (pc := 239) hG 0 rfl dL_text_239 ?_
  refine z_iadd (pc := 241) hG dL_text_241 ?_
  rw [show ((112 : Int32) + (nI b)) = (nI (112 + b)) from nI_add 112 b]
  refine z_i2c (pc := 242) hG dL_text_242 ?_
  rw [show ((nI (112 + b)).toUInt32 % 65536).toInt32 = (nI (112 + b)) from i2c_ok (by omega)]
  refine z_virtG (pc := 243) (A' := A + 1) (B' := B + 1000) (st2 := [.ref 43]) (v := some (.ref 43)) hG hns [.int ((nI (112 + b)))] [] zc_J4 zW4_43 (c3) zy_J4_append_cf468 ⟨w951, w952⟩ w950 dL_text_243 rfl (Nat.le_of_ble_eq_true rfl) (Nat.le_refl _) rfl (zand rfl (zand rfl (zand rfl (zand rfl (zand zk45_4 (zand rfl (zand zk43_4 (zand zk42_4 rfl)))))))) rfl rfl (Nat.le_of_ble_eq_true rfl) rfl rfl ?_
  refine z_lds (pc := 246) hG (by decide : (RL, 51, " in ", 1007) ∈ zrefs) dL_text_246 ?_
  refine z_virtG (pc := 248) (A' := A + 0) (B' := B + 0) (st2 := [.ref 43]) (v := some (.ref 43)) hG hns [.ref 1007] [] zc_J4 zW4_43 (c5) zy_J4_append_15ec4 ⟨w839, w840⟩ w838 dL_text_248 rfl (Nat.le_of_ble_eq_true rfl) (Nat.le_refl _) rfl (zand rfl (zand rfl (zand rfl (zand rfl (zand zk45_4 (zand rfl (zand zk43_4 (zand zk42_4 rfl)))))))) rfl rfl (Nat.le_of_ble_eq_true rfl) rfl rfl ?_
  exact kk
theorem tx_L {l : Launch} (hl0 : l.flags = flags0) {n : Nat} {T : List Nat} {σ : zS} {e m a b : Nat} (hL : sbL σ 43 44 T) (hln : T.length + 60 ≤ 499) {A B : Nat} : ∃ σ' , True ∧ sbL σ' 43 44 (T ++ [59]) ∧ agX [42, 43, 44] 46 σ σ' ∧ ∀ x, zHx l cL_text 8 (Option.some (Jvm.ClassFile.FieldType.object "java/lang/String")) 43 x → zK x 9 161 [(5, .int (nI (e + 1))), (4, .int (nI m)), (3, .ref 45), (2, .int (nI n)), (1, .ref 43), (0, .ref 42)] [] zW4 σ' A B → zK x 9 263 [(7, .int (nI b)), (6, .int (nI a)), (5, .int (nI e)), (4, .int (nI m)), (3, .ref 45), (2, .int (nI n)), (1, .ref 43), (0, .ref 42)] [] zW4 σ (A + 1) (B + 1000) := by
  obtain ⟨s1, c1, L1, g1⟩ := a_T hl0 zW4_S43 hL (q := 1004) (w := [59]) rfl (by decide) (by simp only [List.length_append, List.length_cons, List.length_nil]; omega)
  have G2 : agX [42, 43, 44] 46 σ s1 := agX.tr2 (agX.rf (X := []) (N := 46)) (g1) (by decide) (by decide) (by decide) (by decide)
  refine ⟨_, trivial, L1, G2, ?_⟩
  rintro x ⟨hG, hxl, hns, hn0⟩ kk
  subst hxl
  refine z_aload_n (pc := 263) hG 6 rfl rfl dL_text_263 ?_
  refine z_lds (pc := 264) hG (by decide : (RL, 45, ";", 1004) ∈ zrefs) dL_text_264 ?_
  refine z_virtG (pc := 266) (A' := A + 0) (B' := B + 0) (st2 := [.ref 43]) (v := some (.ref 43)) hG hns [.ref 1004] [] zc_J4 zW4_43 (c1) zy_J4_append_15ec4 ⟨w839, w840⟩ w838 dL_text_266 rfl (Nat.le_of_ble_eq_true rfl) (Nat.le_refl _) rfl (zand rfl (zand rfl (zand rfl (zand rfl (zand zk45_4 (zand rfl (zand zk43_4 (zand zk42_4 rfl)))))))) rfl rfl (Nat.le_of_ble_eq_true rfl) rfl rfl ?_
  refine z_pop (pc := 269) hG rfl dL_text_269 ?_
  refine z_iinc (pc := 270) (v := (nI (e + 1))) (ls' := [(5, .int ((nI (e + 1)))), (7, .int ((nI b))), (6, .int ((nI a))), (4, .int ((nI m))), (3, .ref 45), (2, .int ((nI n))), (1, .ref 43), (0, .ref 42)]) hG 2 rfl [0, 1, 2, 3, 4, 5, 6, 7] (nI_1s) (by decide) rfl dL_text_270 ?_
  refine z_goto (pc := 273) (tgt := 161) hG dL_text_273 rfl ?_
  refine z_sub [0, 3, 4, 5, 6, 7] rfl ?_
  exact kk
theorem tx_M {l : Launch} (hl0 : l.flags = flags0) {n : Nat} {T : List Nat} {σ : zS} {m : Nat} (hL : sbL σ 43 44 T) (hln : T.length + 60 ≤ 499) {A B : Nat} : ∃ σ' p, p ≤ 8 ∧ sbL σ' 43 44 (T) ∧ agX [42, 43, 44] 46 σ σ' ∧ ∀ x, zHx l cL_text 8 (Option.some (Jvm.ClassFile.FieldType.object "java/lang/String")) 43 x → zK x 9 289 [(6, .int (nI 0)), (5, .int (nI p)), (4, .int (nI m)), (3, .ref 45), (2, .int (nI n)), (1, .ref 43), (0, .ref 42)] [] zW4 σ' A B → zK x 9 161 [(5, .int (nI m)), (4, .int (nI m)), (3, .ref 45), (2, .int (nI n)), (1, .ref 43), (0, .ref 42)] [] zW4 σ (A) (B) := by
  obtain ⟨r1, v1, hr1, c1⟩ := c_of hl0 (dl := zW4) (σ := σ) (d := 42) (m := 7) zW4_42 (by decide) (by decide)
  have L1 : sbL (zi σ 42 0 v1) 43 44 (T) := sbL_ag (zi_ag (N := 60)) (by decide) (by decide) (by decide) (by decide) hL
  have G2 : agX [42, 43, 44] 46 σ (zi σ 42 0 v1) := agX.tr2 (agX.rf (X := []) (N := 46)) (zi_ag (N := 60)) (by decide) (by decide) (by decide) (by decide)
  refine ⟨_, (2 + r1), (by omega), L1, G2, ?_⟩
  rintro x ⟨hG, hxl, hns, hn0⟩ kk
  subst hxl
  refine z_iload (pc := 161) hG 0 rfl dL_text_161 ?_
  refine z_iload (pc := 163) hG 1 rfl dL_text_163 ?_
  refine z_icmp_ge (pc := 165) (tgt := 276) hG dL_text_165 rfl (fun _ => ?_) (fun hbr => False.elim (hbr (Int32.le_refl _)))
  refine z_iconst (pc := 276) (v := (2 : Int32)) hG (by decide) dL_text_276 ?_
  refine z_aload_n (pc := 277) hG 5 rfl rfl dL_text_277 ?_
  refine z_bipush (pc := 278) (v := (7 : Int32)) hG (by decide) dL_text_278 ?_
  refine z_virtS (pc := 280) (A' := A + 0) (B' := B + 0) (st2 := [.int ((nI r1)), .int ((2 : Int32))]) (v := some (.int ((nI r1)))) hG [.int ((7 : Int32))] [.int ((2 : Int32))] zc_X11 zW4_42 (c1) zy_X11_of ⟨w833, w834⟩ w832 dL_text_280 rfl (Nat.le_of_ble_eq_true rfl) (Nat.le_refl _) (zand rfl rfl) (zand rfl (zand rfl (zand zo45_4 (zand rfl (zand zo43_4 (zand zo42_4 rfl)))))) rfl rfl (Nat.le_of_ble_eq_true rfl) rfl rfl ?_
  refine z_iadd (pc := 283) hG dL_text_283 ?_
  rw [show ((2 : Int32) + (nI r1)) = (nI (2 + r1)) from nI_add 2 r1]
  refine z_istore (pc := 284) (ls' := [(5, .int ((nI (2 + r1)))), (4, .int ((nI m))), (3, .ref 45), (2, .int ((nI n))), (1, .ref 43), (0, .ref 42)]) hG [0, 1, 2, 3, 4, 5] (by decide) rfl dL_text_284 ?_
  refine z_iconst (pc := 286) (v := (0 : Int32)) hG (by decide) dL_text_286 ?_
  refine z_istore (pc := 287) (ls' := [(6, .int ((0 : Int32))), (5, .int ((nI (2 + r1)))), (4, .int ((nI m))), (3, .ref 45), (2, .int ((nI n))), (1, .ref 43), (0, .ref 42)]) hG [0, 1, 2, 3, 4, 5, 6] (by decide) rfl dL_text_287 ?_
  exact kk
theorem tx_N {l : Launch} (hl0 : l.flags = flags0) {n : Nat} {T : List Nat} {σ : zS} {k p m : Nat} (hk : k < p) (hp : p ≤ 8) (h370 : T.length < 370) (hL : sbL σ 43 44 T) (hln : T.length + 60 ≤ 499) {A B : Nat} : ∃ σ' , True ∧ sbL σ' 43 44 (T ++ [114, 111, 119]) ∧ agX [42, 43, 44] 46 σ σ' ∧ ∀ x, zHx l cL_text 8 (Option.some (Jvm.ClassFile.FieldType.object "java/lang/String")) 43 x → zK x 9 316 [(7, .int (nI 0)), (6, .int (nI k)), (5, .int (nI p)), (4, .int (nI m)), (3, .ref 45), (2, .int (nI n)), (1, .ref 43), (0, .ref 42)] [] zW4 σ' A B → zK x 9 289 [(6, .int (nI k)), (5, .int (nI p)), (4, .int (nI m)), (3, .ref 45), (2, .int (nI n)), (1, .ref 43), (0, .ref 42)] [] zW4 σ (A + 1) (B + 1000) := by
  obtain ⟨s1, c1, L1, g1⟩ := a_T hl0 zW4_S43 hL (q := 1012) (w := [114, 111, 119]) rfl (by decide) (by simp only [List.length_append, List.length_cons, List.length_nil]; omega)
  have G2 : agX [42, 43, 44] 46 σ s1 := agX.tr2 (agX.rf (X := []) (N := 46)) (g1) (by decide) (by decide) (by decide) (by decide)
  refine ⟨_, trivial, L1, G2, ?_⟩
  rintro x ⟨hG, hxl, hns, hn0⟩ kk
  subst hxl
  refine z_iload (pc := 289) hG 0 rfl dL_text_289 ?_
  refine z_iload (pc := 291) hG 1 rfl dL_text_291 ?_
  refine z_icmp_ge (pc := 293) (tgt := 391) hG dL_text_293 rfl (fun hbr => False.elim ((fun h => (nI_nle2 hk (by omega)) h) hbr)) (fun _ => ?_)
  refine z_aload_n (pc := 296) hG 5 rfl rfl dL_text_296 ?_
  refine z_virtS (pc := 297) (A' := A + 1) (B' := B + 1000) (st2 := [.int ((σ.1 43 3))]) (v := some (.int ((σ.1 43 3)))) hG [] [] zc_J4 zW4_43 (c_len4 hl0 zW4_43 (by decide)) zy_J4_length_8abf5 ⟨w1032, w1276⟩ w1071 dL_text_297 rfl (Nat.le_of_ble_eq_true rfl) (Nat.le_refl _) rfl (zand rfl (zand rfl (zand rfl (zand zo45_4 (zand rfl (zand zo43_4 (zand zo42_4 rfl))))))) rfl rfl (Nat.le_of_ble_eq_true rfl) rfl rfl ?_
  rw [show (σ.1 43 3) = (nI T.length) from hL.cnt]
  refine z_sipush (pc := 300) (v := (370 : Int32)) hG (by decide) dL_text_300 ?_
  refine z_icmp_ge (pc := 303) (tgt := 391) hG dL_text_303 rfl (fun hbr => False.elim ((fun h => (nI_nle2 (show T.length < 370 from h370) (by omega)) h) hbr)) (fun _ => ?_)
  refine z_aload_n (pc := 306) hG 5 rfl rfl dL_text_306 ?_
  refine z_lds (pc := 307) hG (by decide : (RL, 65, "row", 1012) ∈ zrefs) dL_text_307 ?_
  refine z_virtG (pc := 309) (A' := A + 0) (B' := B + 0) (st2 := [.ref 43]) (v := some (.ref 43)) hG hns [.ref 1012] [] zc_J4 zW4_43 (c1) zy_J4_append_15ec4 ⟨w839, w840⟩ w838 dL_text_309 rfl (Nat.le_of_ble_eq_true rfl) (Nat.le_refl _) rfl (zand rfl (zand rfl (zand rfl (zand zk45_4 (zand rfl (zand zk43_4 (zand zk42_4 rfl))))))) rfl rfl (Nat.le_of_ble_eq_true rfl) rfl rfl ?_
  refine z_pop (pc := 312) hG rfl dL_text_312 ?_
  refine z_iconst (pc := 313) (v := (0 : Int32)) hG (by decide) dL_text_313 ?_
  refine z_istore (pc := 314) (ls' := [(7, .int ((0 : Int32))), (6, .int ((nI k))), (5, .int ((nI p))), (4, .int ((nI m))), (3, .ref 45), (2, .int ((nI n))), (1, .ref 43), (0, .ref 42)]) hG [0, 1, 2, 3, 4, 5, 6, 7] (by decide) rfl dL_text_314 ?_
  exact kk
theorem tx_O {l : Launch} (hl0 : l.flags = flags0) {n : Nat} {T : List Nat} {σ : zS} {k p m f : Nat} (hf : f < n) (hn : n ≤ 5) (hL : sbL σ 43 44 T) (hln : T.length + 60 ≤ 499) {A B : Nat} : ∃ σ' r, r < 9 ∧ sbL σ' 43 44 (T ++ [32]) ∧ agX [42, 43, 44] 46 σ σ' ∧ ∀ x, zHx l cL_text 8 (Option.some (Jvm.ClassFile.FieldType.object "java/lang/String")) 43 x → zK x 9 334 [(7, .int (nI f)), (6, .int (nI k)), (5, .int (nI p)), (4, .int (nI m)), (3, .ref 45), (2, .int (nI n)), (1, .ref 43), (0, .ref 42)] [.int (nI r), .ref 43] zW4 σ' A B → zK x 9 316 [(7, .int (nI f)), (6, .int (nI k)), (5, .int (nI p)), (4, .int (nI m)), (3, .ref 45), (2, .int (nI n)), (1, .ref 43), (0, .ref 42)] [] zW4 σ (A + 1) (B + 1000) := by
  obtain ⟨s1, c1, L1, g1⟩ := a_T hl0 zW4_S43 hL (q := 1013) (w := [32]) rfl (by decide) (by simp only [List.length_append, List.length_cons, List.length_nil]; omega)
  have G2 : agX [42, 43, 44] 46 σ s1 := agX.tr2 (agX.rf (X := []) (N := 46)) (g1) (by decide) (by decide) (by decide) (by decide)
  obtain ⟨r3, v3, hr3, c3⟩ := c_of hl0 (dl := zW4) (σ := s1) (d := 42) (m := 9) zW4_42 (by decide) (by decide)
  have L3 : sbL (zi s1 42 0 v3) 43 44 (T ++ [32]) := sbL_ag (zi_ag (N := 60)) (by decide) (by decide) (by decide) (by decide) L1
  have G4 : agX [42, 43, 44] 46 σ (zi s1 42 0 v3) := G2.tr2 (zi_ag (N := 60)) (by decide) (by decide) (by decide) (by decide)
  refine ⟨_, r3, hr3, L3, G4, ?_⟩
  rintro x ⟨hG, hxl, hns, hn0⟩ kk
  subst hxl
  refine z_iload (pc := 316) hG 0 rfl dL_text_316 ?_
  refine z_iload_n (pc := 318) hG 5 rfl rfl dL_text_318 ?_
  refine z_icmp_ge (pc := 319) (tgt := 378) hG dL_text_319 rfl (fun hbr => False.elim ((fun h => (nI_nle2 hf (by omega)) h) hbr)) (fun _ => ?_)
  refine z_aload_n (pc := 322) hG 6 rfl rfl dL_text_322 ?_
  refine z_lds (pc := 323) hG (by decide : (RL, 67, " ", 1013) ∈ zrefs) dL_text_323 ?_
  refine z_virtG (pc := 325) (A' := A + 0) (B' := B + 0) (st2 := [.ref 43]) (v := some (.ref 43)) hG hns [.ref 1013] [] zc_J4 zW4_43 (c1) zy_J4_append_15ec4 ⟨w839, w840⟩ w838 dL_text_325 rfl (Nat.le_of_ble_eq_true rfl) (Nat.le_refl _) rfl (zand rfl (zand rfl (zand rfl (zand rfl (zand zk45_4 (zand rfl (zand zk43_4 (zand zk42_4 rfl)))))))) rfl rfl (Nat.le_of_ble_eq_true rfl) rfl rfl ?_
  refine z_aload_n (pc := 328) hG 7 rfl rfl dL_text_328 ?_
  refine z_bipush (pc := 329) (v := (9 : Int32)) hG (by decide) dL_text_329 ?_
  refine z_virtS (pc := 331) (A' := A + 0) (B' := B + 0) (st2 := [.int ((nI r3)), .ref 43]) (v := some (.int ((nI r3)))) hG [.int ((9 : Int32))] [.ref 43] zc_X11 zW4_42 (c3) zy_X11_of ⟨w833, w834⟩ w832 dL_text_331 rfl (Nat.le_of_ble_eq_true rfl) (Nat.le_refl _) (zand zo43_4 rfl) (zand rfl (zand rfl (zand rfl (zand rfl (zand zo45_4 (zand rfl (zand zo43_4 (zand zo42_4 rfl)))))))) rfl rfl (Nat.le_of_ble_eq_true rfl) rfl rfl ?_
  exact kk
theorem tx_P0 {l : Launch} (hl0 : l.flags = flags0) {n : Nat} {T : List Nat} {σ : zS} {k p m f : Nat} (hL : sbL σ 43 44 T) (hln : T.length + 60 ≤ 499) {A B : Nat} : ∃ σ' , True ∧ sbL σ' 43 44 (T ++ [63]) ∧ agX [42, 43, 44] 46 σ σ' ∧ ∀ x, zHx l cL_text 8 (Option.some (Jvm.ClassFile.FieldType.object "java/lang/String")) 43 x → zK x 9 316 [(7, .int (nI (f + 1))), (6, .int (nI k)), (5, .int (nI p)), (4, .int (nI m)), (3, .ref 45), (2, .int (nI n)), (1, .ref 43), (0, .ref 42)] [] zW4 σ' A B → zK x 9 334 [(7, .int (nI f)), (6, .int (nI k)), (5, .int (nI p)), (4, .int (nI m)), (3, .ref 45), (2, .int (nI n)), (1, .ref 43), (0, .ref 42)] [.int (nI 0), .ref 43] zW4 σ (A + 1) (B + 1000) := by
  obtain ⟨s1, c1, L1, g1⟩ := a_T hl0 zW4_S43 hL (q := 1014) (w := [63]) rfl (by decide) (by simp only [List.length_append, List.length_cons, List.length_nil]; omega)
  have G2 : agX [42, 43, 44] 46 σ s1 := agX.tr2 (agX.rf (X := []) (N := 46)) (g1) (by decide) (by decide) (by decide) (by decide)
  refine ⟨_, trivial, L1, G2, ?_⟩
  rintro x ⟨hG, hxl, hns, hn0⟩ kk
  subst hxl
  refine z_if_ne (pc := 334) (tgt := 342) hG dL_text_334 rfl (fun hbr => False.elim ((fun h => h rfl) hbr)) (fun _ => ?_)
  refine z_lds (pc := 337) hG (by decide : (RL, 69, "?", 1014) ∈ zrefs) dL_text_337 ?_
  refine z_goto (pc := 339) (tgt := 368) hG dL_text_339 rfl ?_
  refine z_virtG (pc := 368) (A' := A + 0) (B' := B + 0) (st2 := [.ref 43]) (v := some (.ref 43)) hG hns [.ref 1014] [] zc_J4 zW4_43 (c1) zy_J4_append_15ec4 ⟨w839, w840⟩ w838 dL_text_368 rfl (Nat.le_of_ble_eq_true rfl) (Nat.le_refl _) rfl (zand rfl (zand rfl (zand rfl (zand rfl (zand zk45_4 (zand rfl (zand zk43_4 (zand zk42_4 rfl)))))))) rfl rfl (Nat.le_of_ble_eq_true rfl) rfl rfl ?_
  refine z_pop (pc := 371) hG rfl dL_text_371 ?_
  refine z_iinc (pc := 372) (v := (nI (f + 1))) (ls' := [(7, .int ((nI (f + 1)))), (6, .int ((nI k))), (5, .int ((nI p))), (4, .int ((nI m))), (3, .ref 45), (2, .int ((nI n))), (1, .ref 43), (0, .ref 42)]) hG 0 rfl [0, 1, 2, 3, 4, 5, 6, 7] (nI_1s) (by decide) rfl dL_text_372 ?_
  refine z_goto (pc := 375) (tgt := 316) hG dL_text_375 rfl ?_
  exact kk
theorem tx_P1 {l : Launch} (hl0 : l.flags = flags0) {n : Nat} {T : List Nat} {σ : zS} {k p m f r : Nat} {many : Nat → Nat} (hr0 : ¬ nI r = 0) (hf : f < n) (hn : n ≤ 5) (hM : mnR σ n n many) (hq : 2 ≤ many f ∧ many f ≤ 5) (hL : sbL σ 43 44 T) (hln : T.length + 60 ≤ 499) {A B : Nat} : ∃ σ' v, v < many f ∧ sbL σ' 43 44 (T ++ [48 + v]) ∧ agX [42, 43, 44] 46 σ σ' ∧ ∀ x, zHx l cL_text 8 (Option.some (Jvm.ClassFile.FieldType.object "java/lang/String")) 43 x → zK x 9 316 [(7, .int (nI (f + 1))), (6, .int (nI k)), (5, .int (nI p)), (4, .int (nI m)), (3, .ref 45), (2, .int (nI n)), (1, .ref 43), (0, .ref 42)] [] zW4 σ' A B → zK x 9 334 [(7, .int (nI f)), (6, .int (nI k)), (5, .int (nI p)), (4, .int (nI m)), (3, .ref 45), (2, .int (nI n)), (1, .ref 43), (0, .ref 42)] [.int (nI r), .ref 43] zW4 σ (A + 7) (B + 4024) := by
  have hL0 : sbL (zi (zini (zini σ 46 0) 47 16) 46 1 0) 46 47 [] := sbI_A.1
  have g0 : agX [42] 46 σ (zi (zini (zini σ 46 0) 47 16) 46 1 0) := (agX.rf (X := []) (N := 46)).tr2 (sbI_A (t := fun _ => 0)).2.ag (by decide) (by decide) (by decide) (by decide)
  obtain ⟨s1, c1, L1, g1⟩ := a_T hl0 zW6_S46 hL0 (q := 1009) (w := ([] : List Nat)) rfl (by decide) (by simp only [List.length_append, List.length_cons, List.length_nil]; omega)
  have G2 : agX [42] 46 (zi (zini (zini σ 46 0) 47 16) 46 1 0) s1 := agX.tr2 (agX.rf (X := []) (N := 46)) (g1) (by decide) (by decide) (by decide) (by decide)
  have hMm := mnR_ag (g0.tr2 G2 (by decide) (by decide) (by decide) (by decide) : agX [42] 46 σ s1) (by decide) (by decide) hM
  obtain ⟨r3, v3, hr3, c3⟩ := c_of hl0 (dl := zW6) (σ := s1) (d := 42) (m := (many f)) zW6_42 (by omega) (by omega)
  have L3 : sbL (zi s1 42 0 v3) 46 47 (([] : List Nat)) := sbL_ag (zi_ag (N := 60)) (by decide) (by decide) (by decide) (by decide) L1
  have G4 : agX [42] 46 (zi (zini (zini σ 46 0) 47 16) 46 1 0) (zi s1 42 0 v3) := G2.tr2 (zi_ag (N := 60)) (by decide) (by decide) (by decide) (by decide)
  obtain ⟨s5, c5, L5, g5⟩ := a_I hl0 zW6_S46 L3 (k := r3) (by omega) (by simp only [List.length_append, List.length_cons, List.length_nil]; omega)
  have G6 : agX [42] 46 (zi (zini (zini σ 46 0) 47 16) 46 1 0) s5 := G4.tr2 (g5) (by decide) (by decide) (by decide) (by decide)
  obtain ⟨s8, c8, hU, g8⟩ := c_str48 hl0 L5
  have e8 : ([] : List Nat) ++ [48 + r3] = [48 + r3] := rfl
  have gA : agX [42] 46 σ s8 := (g0.tr2 G6 (by decide) (by decide) (by decide) (by decide) : agX [42] 46 σ s5).tr2 g8 (by decide) (by decide) (by decide) (by decide)
  have L8 : sbL s8 43 44 T := sbL_ag gA (by decide) (by decide) (by decide) (by decide) hL
  obtain ⟨s9, c9, L9, g9⟩ := a_M hl0 zW8_S43 L8 zW8_M48 hU (by decide) (by simp only [List.length_append, List.length_cons, List.length_nil]; omega)
  refine ⟨s9, r3, hr3, L9, gA.tr2 g9 (by decide) (by decide) (by decide) (by decide), ?_⟩
  rintro x ⟨hG, hxl, hns, hn0⟩ kk
  subst hxl
  refine z_if_ne (pc := 334) (tgt := 342) hG dL_text_334 rfl (fun _ => ?_) (fun hbr => False.elim ((hr0) hbr))
  refine z_ini 46 0 (by decide) ?_
  refine z_new (pc := 342) (A' := A + 6) (B' := B + 4020) (ci := 10) (fl := [(3, 0), (0, 0), (0, 0), (0, 0)]) (i := 46) hG zc_J4 inJ4 tyJ4 tyJ4_ok w801 w802 w12 rfl (by decide) (zbl_all (M := 46) (by decide +kernel) (by decide) (by decide)) (fun k => congrFun zini_s k) rfl hfsJ4 rfl rfl (dl' := zW4 ++ [zB0]) rfl rfl rfl dL_text_342 ?_
  refine z_dup (pc := 345) hG rfl dL_text_345 ?_
  refine z_spec (pc := 346) (A' := A + 5) (B' := B + 4004) (rest := [.ref 46, .ref 43]) hG 47 [] (c_sb46 hl0) zy_J4_init_da8c8 rfl w804 w803 dL_text_346 rfl (Nat.le_of_ble_eq_true rfl) (by decide) (by decide) rfl rfl rfl rfl (Nat.le_of_ble_eq_true rfl) rfl ?_
  refine z_lds (pc := 349) hG (by decide : (RL, 19, "", 1009) ∈ zrefs) dL_text_349 ?_
  refine z_virtG (pc := 351) (A' := A + 4) (B' := B + 3004) (st2 := [.ref 46, .ref 43]) (v := some (.ref 46)) hG hns [.ref 1009] [.ref 43] zc_J4 zW6_46 (c1) zy_J4_append_15ec4 ⟨w839, w840⟩ w838 dL_text_351 rfl (Nat.le_of_ble_eq_true rfl) (Nat.le_refl _) (zand zk43_6 rfl) (zand rfl (zand rfl (zand rfl (zand rfl (zand zk45_6 (zand rfl (zand zk43_6 (zand zk42_6 rfl)))))))) rfl rfl (Nat.le_of_ble_eq_true rfl) rfl rfl ?_
  refine z_aload_n (pc := 354) hG 7 rfl rfl dL_text_354 ?_
  refine z_aload_n (pc := 355) hG 4 rfl rfl dL_text_355 ?_
  refine z_iload (pc := 356) hG 0 rfl dL_text_356 ?_
  refine z_ald6 (pc := 358) hG zW6_45 (vp_in_nI (show f < zLn (s1) 45 by rw [hMm.1]; exact hf) (by rw [hMm.1]; omega)) dL_text_358 ?_
  rw [nI_clamp (show f < 2 ^ 31 by omega), hMm.2 f hf]
  refine z_virtS (pc := 359) (A' := A + 4) (B' := B + 3004) (st2 := [.int ((nI r3)), .ref 46, .ref 43]) (v := some (.int ((nI r3)))) hG [.int ((nI (many f)))] [.ref 46, .ref 43] zc_X11 zW6_42 (c3) zy_X11_of ⟨w833, w834⟩ w832 dL_text_359 rfl (Nat.le_of_ble_eq_true rfl) (Nat.le_refl _) (zand zo46_6 (zand zo43_6 rfl)) (zand rfl (zand rfl (zand rfl (zand rfl (zand zo45_6 (zand rfl (zand zo43_6 (zand zo42_6 rfl)))))))) rfl rfl (Nat.le_of_ble_eq_true rfl) rfl rfl ?_
  refine z_virtG (pc := 362) (A' := A + 3) (B' := B + 2004) (st2 := [.ref 46, .ref 43]) (v := some (.ref 46)) hG hns [.int ((nI r3))] [.ref 43] zc_J4 zW6_46 (c5) zy_J4_append_bf812 ⟨w975, w976⟩ w974 dL_text_362 rfl (Nat.le_of_ble_eq_true rfl) (Nat.le_refl _) (zand zk43_6 rfl) (zand rfl (zand rfl (zand rfl (zand rfl (zand zk45_6 (zand rfl (zand zk43_6 (zand zk42_6 rfl)))))))) rfl rfl (Nat.le_of_ble_eq_true rfl) rfl rfl ?_
  refine z_wk (A' := A + 3) (B' := B + 2004) (by omega) (by omega) ?_
  refine z_virtS (pc := 365) (A' := A + 1) (B' := B + 1000) (st2 := [.ref 48, .ref 43]) (v := some (.ref 48)) hG [] [.ref 43] zc_J4 zW6_46 c8 zy_J4_toString_0e30d ⟨w1011, w1012⟩ w1010 dL_text_365 rfl (Nat.le_of_ble_eq_true rfl) (by decide) (zand zo43_6 rfl) (zand rfl (zand rfl (zand rfl (zand rfl (zand zo45_6 (zand rfl (zand zo43_6 (zand zo42_6 rfl)))))))) rfl rfl (Nat.le_of_ble_eq_true rfl) rfl rfl ?_
  refine z_virtG (pc := 368) (A' := A) (B' := B) (st2 := [.ref 43]) (v := some (.ref 43)) hG hns [.ref 48] [] zc_J4 zW8_43 (c9) zy_J4_append_15ec4 ⟨w839, w840⟩ w838 dL_text_368 rfl (Nat.le_of_ble_eq_true rfl) (Nat.le_refl _) rfl (zand rfl (zand rfl (zand rfl (zand rfl (zand zk45_8 (zand rfl (zand zk43_8 (zand zk42_8 rfl)))))))) rfl rfl (Nat.le_of_ble_eq_true rfl) rfl rfl ?_
  refine z_pop (pc := 371) hG rfl dL_text_371 ?_
  refine z_drop (dl := zW6) (by rw [hn0]; decide) ?_
  refine z_drop (dl := zW4) (by rw [hn0]; decide) ?_
  refine z_iinc (pc := 372) (v := (nI (f + 1))) (ls' := [(7, .int ((nI (f + 1)))), (6, .int ((nI k))), (5, .int ((nI p))), (4, .int ((nI m))), (3, .ref 45), (2, .int ((nI n))), (1, .ref 43), (0, .ref 42)]) hG 0 rfl [0, 1, 2, 3, 4, 5, 6, 7] (nI_1s) (by decide) rfl dL_text_372 ?_
  refine z_goto (pc := 375) (tgt := 316) hG dL_text_375 rfl ?_
  exact kk
theorem tx_Q {l : Launch} (hl0 : l.flags = flags0) {n : Nat} {T : List Nat} {σ : zS} {k p m : Nat} (hL : sbL σ 43 44 T) (hln : T.length + 60 ≤ 499) {A B : Nat} : ∃ σ' , True ∧ sbL σ' 43 44 (T ++ [59]) ∧ agX [42, 43, 44] 46 σ σ' ∧ ∀ x, zHx l cL_text 8 (Option.some (Jvm.ClassFile.FieldType.object "java/lang/String")) 43 x → zK x 9 289 [(6, .int (nI (k + 1))), (5, .int (nI p)), (4, .int (nI m)), (3, .ref 45), (2, .int (nI n)), (1, .ref 43), (0, .ref 42)] [] zW4 σ' A B → zK x 9 316 [(7, .int (nI n)), (6, .int (nI k)), (5, .int (nI p)), (4, .int (nI m)), (3, .ref 45), (2, .int (nI n)), (1, .ref 43), (0, .ref 42)] [] zW4 σ (A + 1) (B + 1000) := by
  obtain ⟨s1, c1, L1, g1⟩ := a_T hl0 zW4_S43 hL (q := 1004) (w := [59]) rfl (by decide) (by simp only [List.length_append, List.length_cons, List.length_nil]; omega)
  have G2 : agX [42, 43, 44] 46 σ s1 := agX.tr2 (agX.rf (X := []) (N := 46)) (g1) (by decide) (by decide) (by decide) (by decide)
  refine ⟨_, trivial, L1, G2, ?_⟩
  rintro x ⟨hG, hxl, hns, hn0⟩ kk
  subst hxl
  refine z_iload (pc := 316) hG 0 rfl dL_text_316 ?_
  refine z_iload_n (pc := 318) hG 5 rfl rfl dL_text_318 ?_
  refine z_icmp_ge (pc := 319) (tgt := 378) hG dL_text_319 rfl (fun _ => ?_) (fun hbr => False.elim (hbr (Int32.le_refl _)))
  refine z_aload_n (pc := 378) hG 6 rfl rfl dL_text_378 ?_
  refine z_lds (pc := 379) hG (by decide : (RL, 45, ";", 1004) ∈ zrefs) dL_text_379 ?_
  refine z_virtG (pc := 381) (A' := A + 0) (B' := B + 0) (st2 := [.ref 43]) (v := some (.ref 43)) hG hns [.ref 1004] [] zc_J4 zW4_43 (c1) zy_J4_append_15ec4 ⟨w839, w840⟩ w838 dL_text_381 rfl (Nat.le_of_ble_eq_true rfl) (Nat.le_refl _) rfl (zand rfl (zand rfl (zand rfl (zand rfl (zand zk45_4 (zand rfl (zand zk43_4 (zand zk42_4 rfl)))))))) rfl rfl (Nat.le_of_ble_eq_true rfl) rfl rfl ?_
  refine z_pop (pc := 384) hG rfl dL_text_384 ?_
  refine z_iinc (pc := 385) (v := (nI (k + 1))) (ls' := [(6, .int ((nI (k + 1)))), (7, .int ((nI n))), (5, .int ((nI p))), (4, .int ((nI m))), (3, .ref 45), (2, .int ((nI n))), (1, .ref 43), (0, .ref 42)]) hG 1 rfl [0, 1, 2, 3, 4, 5, 6, 7] (nI_1s) (by decide) rfl dL_text_385 ?_
  refine z_goto (pc := 388) (tgt := 289) hG dL_text_388 rfl ?_
  refine z_sub [0, 2, 3, 4, 5, 6, 7] rfl ?_
  exact kk
abbrev zWt : List zDs := zW4 ++ [zST 47, .inr (5, 0)]
theorem c_str46 {l : Launch} (hl0 : l.flags = flags0) {σ : zS} {L : List Nat} (hL : sbL σ 43 44 L) : ∃ σ', zC l yJ4_toString_0e30d cJ4_toString_0e30d 1 (Option.some (Jvm.ClassFile.FieldType.object "java/lang/String")) 5 2 1004 [.ref 43] zW4 σ (.inl (some (.ref 46)), zWt, σ') ∧ zstL σ' 46 47 L ∧ agX [] 46 σ σ' := by
  obtain ⟨σ', h1, h2, h3⟩ := c_str4 (D := zW4) hl0 zW4_S43 hL rfl (by decide +kernel)
  exact ⟨σ', h1, h2, h3.ag⟩
theorem tx_Z1 {l : Launch} (hl0 : l.flags = flags0) {n : Nat} {T : List Nat} {σ : zS} {k p m : Nat} (hk : p ≤ k) (hkp : k ≤ 8) (hL : sbL σ 43 44 T) {A B : Nat} : ∃ σ', zstL σ' 46 47 T ∧ agX [] 42 σ σ' ∧ ∀ x, zHx l cL_text 8 (Option.some (Jvm.ClassFile.FieldType.object "java/lang/String")) 43 x → ztg x = (.inl (some (.ref 46)), zWt, σ') → zK x 9 289 [(6, .int (nI k)), (5, .int (nI p)), (4, .int (nI m)), (3, .ref 45), (2, .int (nI n)), (1, .ref 43), (0, .ref 42)] [] zW4 σ (A + 2) (B + 1004) := by
  obtain ⟨σ', h1, h2, h3⟩ := c_str46 hl0 hL
  refine ⟨σ', h2, (agX.rf (X := []) (N := 46)).tr2 h3 (by decide) (by decide) (by decide) (by decide), ?_⟩
  rintro x ⟨hG, hxl, hns, hn0⟩ htg
  subst hxl
  refine z_iload (pc := 289) hG 0 rfl dL_text_289 ?_
  refine z_iload (pc := 291) hG 1 rfl dL_text_291 ?_
  refine z_icmp_ge (pc := 293) (tgt := 391) hG dL_text_293 rfl (fun _ => ?_) (fun hbr => False.elim (hbr (nI_le hk (by omega))))
  refine z_aload_n (pc := 391) hG 5 rfl rfl dL_text_391 ?_
  refine z_virtS (pc := 392) (A' := A) (B' := B) (st2 := [.ref 46]) (v := some (.ref 46)) hG [] [] zc_J4 zW4_43 h1 zy_J4_toString_0e30d ⟨w1011, w1012⟩ w1010 dL_text_392 rfl (Nat.le_of_ble_eq_true rfl) (by decide) rfl (zand rfl (zand rfl (zand rfl (zand zo45_4 (zand rfl (zand zo43_4 (zand zo42_4 rfl))))))) rfl rfl (Nat.le_of_ble_eq_true rfl) rfl rfl ?_
  exact z_areto (pc := 395) hG rfl htg dL_text_395
theorem tx_Z2 {l : Launch} (hl0 : l.flags = flags0) {n : Nat} {T : List Nat} {σ : zS} {k p m : Nat} (hk : k < p) (hp : p ≤ 8) (h370 : 370 ≤ T.length) (hL : sbL σ 43 44 T) {A B : Nat} : ∃ σ', zstL σ' 46 47 T ∧ agX [] 42 σ σ' ∧ ∀ x, zHx l cL_text 8 (Option.some (Jvm.ClassFile.FieldType.object "java/lang/String")) 43 x → ztg x = (.inl (some (.ref 46)), zWt, σ') → zK x 9 289 [(6, .int (nI k)), (5, .int (nI p)), (4, .int (nI m)), (3, .ref 45), (2, .int (nI n)), (1, .ref 43), (0, .ref 42)] [] zW4 σ (A + 2) (B + 1004) := by
  obtain ⟨σ', h1, h2, h3⟩ := c_str46 hl0 hL
  refine ⟨σ', h2, (agX.rf (X := []) (N := 46)).tr2 h3 (by decide) (by decide) (by decide) (by decide), ?_⟩
  rintro x ⟨hG, hxl, hns, hn0⟩ htg
  subst hxl
  refine z_iload (pc := 289) hG 0 rfl dL_text_289 ?_
  refine z_iload (pc := 291) hG 1 rfl dL_text_291 ?_
  refine z_icmp_ge (pc := 293) (tgt := 391) hG dL_text_293 rfl (fun hbr => False.elim ((fun h => (nI_nle2 hk (by omega)) h) hbr)) (fun _ => ?_)
  refine z_aload_n (pc := 296) hG 5 rfl rfl dL_text_296 ?_
  refine z_virtS (pc := 297) (A' := A + 2) (B' := B + 1004) (st2 := [.int ((σ.1 43 3))]) (v := some (.int ((σ.1 43 3)))) hG [] [] zc_J4 zW4_43 (c_len4 hl0 zW4_43 (by decide)) zy_J4_length_8abf5 ⟨w1032, w1276⟩ w1071 dL_text_297 rfl (Nat.le_of_ble_eq_true rfl) (Nat.le_refl _) rfl (zand rfl (zand rfl (zand rfl (zand zo45_4 (zand rfl (zand zo43_4 (zand zo42_4 rfl))))))) rfl rfl (Nat.le_of_ble_eq_true rfl) rfl rfl ?_
  rw [show (σ.1 43 3) = (nI T.length) from hL.cnt]
  refine z_sipush (pc := 300) (v := (370 : Int32)) hG (by decide) dL_text_300 ?_
  refine z_icmp_ge (pc := 303) (tgt := 391) hG dL_text_303 rfl (fun _ => ?_) (fun hbr => False.elim (hbr (nI_le h370 (by have := hL.le; have := hL.cap; omega))))
  refine z_aload_n (pc := 391) hG 5 rfl rfl dL_text_391 ?_
  refine z_virtS (pc := 392) (A' := A) (B' := B) (st2 := [.ref 46]) (v := some (.ref 46)) hG [] [] zc_J4 zW4_43 h1 zy_J4_toString_0e30d ⟨w1011, w1012⟩ w1010 dL_text_392 rfl (Nat.le_of_ble_eq_true rfl) (by decide) rfl (zand rfl (zand rfl (zand rfl (zand zo45_4 (zand rfl (zand zo43_4 (zand zo42_4 rfl))))))) rfl rfl (Nat.le_of_ble_eq_true rfl) rfl rfl ?_
  exact z_areto (pc := 395) hG rfl htg dL_text_395
