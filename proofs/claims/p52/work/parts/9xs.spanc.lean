/-! ===== span by contract ===== -/
theorem c_sb46 {l : Launch} (hl0 : l.flags = flags0) {σ : zS} : zC l yJ4_init_da8c8 cJ4_init_da8c8 1 (Option.none : Option Jvm.ClassFile.FieldType) 1 1 16 [.ref 46] (zW4 ++ [zB0]) σ (.inl none, zW6, zi (zini σ 47 16) 46 1 0) := c_sbI (D := zW4) hl0 (by decide) rfl (by decide +kernel)
theorem c_str48 {l : Launch} (hl0 : l.flags = flags0) {σ : zS} {L : List Nat} (hL : sbL σ 46 47 L) : ∃ σ', zC l yJ4_toString_0e30d cJ4_toString_0e30d 1 (Option.some (Jvm.ClassFile.FieldType.object "java/lang/String")) 5 2 1004 [.ref 46] zW6 σ (.inl (some (.ref 48)), zW8, σ') ∧ zstL σ' 48 49 L ∧ agX [] 48 σ σ' := by
  obtain ⟨σ', h1, h2, h3⟩ := c_str4 (D := zW6) hl0 zW6_S46 hL rfl (by decide +kernel)
  exact ⟨σ', h1, h2, h3.ag⟩
theorem hfsJ4 : ∀ j, j < 4 → defaultValue (tyJ4 j) = vp_V ([(3, 0), (0, 0), (0, 0), (0, 0)].map zdv) j := by decide
theorem sp_end {l : Launch} (hl0 : l.flags = flags0) {m n : Nat} {L : List Nat} {σ : zS} {k : Nat} (hk : nI n ≤ nI k) (hL : sbL σ 46 47 L) {A B : Nat} : ∃ σ', zstL σ' 48 49 L ∧ agX [42] 46 σ σ' ∧ ∀ x, zHx l cL_span 6 (Option.some (Jvm.ClassFile.FieldType.object "java/lang/String")) 46 x → ztg x = (.inl (some (.ref 48)), zW8, σ') → zK x 6 19 [(4, .int (nI k)), (3, .int (nI n)), (2, .ref 46), (0, .ref 42), (1, .int (nI m))] [] zW6 σ (A + 2) (B + 1004) := by
  obtain ⟨σ', h1, h2, h3⟩ := c_str48 hl0 hL
  refine ⟨σ', h2, (agX.rf (X := []) (N := 46)).tr2 h3 (by decide) (by decide) (by decide) (by decide), ?_⟩
  rintro x ⟨hG, hxl, hns, hn0⟩ htg
  subst hxl
  refine z_iload (pc := 19) hG 0 rfl dL_span_19 ?_
  refine z_iload_n (pc := 21) hG 1 rfl rfl dL_span_21 ?_
  refine z_icmp_ge (pc := 22) (tgt := 89) hG dL_span_22 rfl (fun _ => ?_) (fun hbr => False.elim (hbr (hk)))
  refine z_aload_n (pc := 89) hG 2 rfl rfl dL_span_89 ?_
  refine z_virtS (pc := 90) (A' := A) (B' := B) (st2 := [.ref 48]) (v := some (.ref 48)) hG [] [] zc_J4 zW6_46 h1 zy_J4_toString_0e30d ⟨w1011, w1012⟩ w1010 dL_span_90 rfl (Nat.le_of_ble_eq_true rfl) (by decide) rfl (zand rfl (zand rfl (zand zo46_6 (zand zo42_6 (zand rfl rfl))))) rfl rfl (Nat.le_of_ble_eq_true rfl) rfl rfl ?_
  exact z_areto (pc := 93) hG rfl htg dL_span_93
theorem sp_beg {l : Launch} (hl0 : l.flags = flags0) {m : Nat} {σ : zS} {A B : Nat} : ∃ σ' r, r < 2 ∧ sbL σ' 46 47 [] ∧ agX [42] 46 σ σ' ∧ ∀ x, zHx l cL_span 6 (Option.some (Jvm.ClassFile.FieldType.object "java/lang/String")) 46 x → zK x 6 19 [(4, .int (nI 0)), (3, .int (nI (1 + r))), (2, .ref 46), (0, .ref 42), (1, .int (nI m))] [] zW6 σ' A B → zK x 6 0 [(0, .ref 42), (1, .int (nI m))] [] zW4 σ (A + 2) (B + 20) := by
  have hL0 : sbL (zi (zini (zini σ 46 0) 47 16) 46 1 0) 46 47 [] := sbI_A.1
  obtain ⟨r1, v1, hr1, c1⟩ := c_of hl0 (dl := zW6) (σ := zi (zini (zini σ 46 0) 47 16) 46 1 0) (d := 42) (m := 2) zW6_42 (by decide) (by decide)
  have L1 : sbL (zi (zi (zini (zini σ 46 0) 47 16) 46 1 0) 42 0 v1) 46 47 ([]) := sbL_ag (zi_ag (N := 60)) (by decide) (by decide) (by decide) (by decide) hL0
  have G2 : agX [42] 46 (zi (zini (zini σ 46 0) 47 16) 46 1 0) (zi (zi (zini (zini σ 46 0) 47 16) 46 1 0) 42 0 v1) := agX.tr2 (agX.rf (X := []) (N := 46)) (zi_ag (N := 60)) (by decide) (by decide) (by decide) (by decide)
  have g0 : agX [42] 46 σ (zi (zini (zini σ 46 0) 47 16) 46 1 0) := (agX.rf (X := []) (N := 46)).tr2 (sbI_A (t := fun _ => 0)).2.ag (by decide) (by decide) (by decide) (by decide)
  refine ⟨_, r1, hr1, L1, g0.tr2 G2 (by decide) (by decide) (by decide) (by decide), ?_⟩
  rintro x ⟨hG, hxl, hns, hn0⟩ kk
  subst hxl
  refine z_ini 46 0 (by decide) ?_
  refine z_new (pc := 0) (A' := A + 1) (B' := B + 16) (ci := 10) (fl := [(3, 0), (0, 0), (0, 0), (0, 0)]) (i := 46) hG zc_J4 inJ4 tyJ4 tyJ4_ok w801 w802 w12 rfl (by decide) (zbl_all (M := 46) (by decide +kernel) (by decide) (by decide)) (fun k => congrFun zini_s k) rfl hfsJ4 rfl rfl (dl' := zW4 ++ [zB0]) rfl rfl rfl dL_span_0 ?_
  refine z_dup (pc := 3) hG rfl dL_span_3 ?_
  refine z_spec (pc := 4) (A' := A) (B' := B) (rest := [.ref 46]) hG 47 [] (c_sb46 hl0) zy_J4_init_da8c8 rfl w804 w803 dL_span_4 rfl (Nat.le_of_ble_eq_true rfl) (by decide) (by decide) rfl rfl rfl rfl (Nat.le_of_ble_eq_true rfl) rfl ?_
  refine z_astore_n (pc := 7) (ls' := [(2, .ref 46), (0, .ref 42), (1, .int ((nI m)))]) hG [0, 1, 2] rfl (by decide) rfl dL_span_7 ?_
  refine z_iconst (pc := 8) (v := (1 : Int32)) hG (by decide) dL_span_8 ?_
  refine z_aload_n (pc := 9) hG 1 rfl rfl dL_span_9 ?_
  refine z_iconst (pc := 10) (v := (2 : Int32)) hG (by decide) dL_span_10 ?_
  refine z_virtS (pc := 11) (A' := A + 0) (B' := B + 0) (st2 := [.int ((nI r1)), .int ((1 : Int32))]) (v := some (.int ((nI r1)))) hG [.int ((2 : Int32))] [.int ((1 : Int32))] zc_X11 zW6_42 (c1) zy_X11_of ⟨w833, w834⟩ w832 dL_span_11 rfl (Nat.le_of_ble_eq_true rfl) (Nat.le_refl _) (zand rfl rfl) (zand zo46_6 (zand zo42_6 (zand rfl rfl))) rfl rfl (Nat.le_of_ble_eq_true rfl) rfl rfl ?_
  refine z_iadd (pc := 14) hG dL_span_14 ?_
  rw [show ((1 : Int32) + (nI r1)) = (nI (1 + r1)) from nI_add 1 r1]
  refine z_istore_n (pc := 15) (ls' := [(3, .int ((nI (1 + r1)))), (2, .ref 46), (0, .ref 42), (1, .int ((nI m)))]) hG [0, 1, 2, 3] rfl (by decide) rfl dL_span_15 ?_
  refine z_iconst (pc := 16) (v := (0 : Int32)) hG (by decide) dL_span_16 ?_
  refine z_istore (pc := 17) (ls' := [(4, .int ((0 : Int32))), (3, .int ((nI (1 + r1)))), (2, .ref 46), (0, .ref 42), (1, .int ((nI m)))]) hG [0, 1, 2, 3, 4] (by decide) rfl dL_span_17 ?_
  exact kk
theorem c_span {l : Launch} (hl0 : l.flags = flags0) {m : Nat} (hm : 2 ≤ m ∧ m ≤ 5) {σ : zS} : ∃ σ' v u b o, spsO (m - 1) v u b o ∧ zstL σ' 48 49 (sps v u b o) ∧ agX [42] 46 σ σ' ∧ zCg l yL_span cL_span 6 (Option.some (Jvm.ClassFile.FieldType.object "java/lang/String")) 6 12 9024 [.ref 42, .int (nI m)] zW4 σ (.inl (some (.ref 48)), zW8, σ') := by
  obtain ⟨σ1, r, hr, h1, g1, k1⟩ := sp_beg hl0 (m := m) (σ := σ) (A := 10) (B := 9004)
  obtain ⟨σ2, v, u, b, o2, h2, g2, k2⟩ := sp_0 hl0 hm (n := 1 + r) (by omega) h1 (by decide) (A := 6) (B := 5004)
  have e2 : [] ++ (([] : List Nat) ++ sb v u b) = sb v u b := by simp
  rw [e2] at h2
  have hlen : (sb v u b).length ≤ 3 := by
    cases b <;> simp [sb]
  by_cases h0 : r = 0
  · subst h0
    obtain ⟨σ3, h3, g3, k3⟩ := sp_end hl0 (m := m) (n := 1 + 0) (k := 0 + 1) (by decide) h2 (A := 4) (B := 4000)
    refine ⟨σ3, v, u, b, none, ⟨o2, trivial⟩, h3, (g1.tr2 g2 (by decide) (by decide) (by decide) (by decide) : agX [42] 46 σ σ2).tr2 g3 (by decide) (by decide) (by decide) (by decide), ?_⟩
    refine zCg_of hl0 rfl (Nat.le_of_ble_eq_true rfl) (fun x hG hxl hk hns hn0 => ?_)
    have hx : zHx l cL_span 6 (Option.some (Jvm.ClassFile.FieldType.object "java/lang/String")) 46 x := ⟨hG, hxl, hns, hn0.trans rfl⟩
    exact k1 x hx (k2 x hx (k3 x hx hk))
  · obtain rfl : r = 1 := by omega
    obtain ⟨σ3, v', u', b', o3, h3, g3, k3⟩ := sp_1 hl0 hm (n := 1 + 1) (by decide) h2 (by omega) (A := 2) (B := 1004)
    obtain ⟨σ4, h4, g4, k4⟩ := sp_end hl0 (m := m) (n := 1 + 1) (k := 1 + 1) (by decide) h3 (A := 0) (B := 0)
    have e3 : sps v u b (some (v', u', b')) = sb v u b ++ ([44] ++ sb v' u' b') := by simp [sps]
    rw [← e3] at h4
    refine ⟨σ4, v, u, b, some (v', u', b'), ⟨o2, o3⟩, h4, ((g1.tr2 g2 (by decide) (by decide) (by decide) (by decide) : agX [42] 46 σ σ2).tr2 g3 (by decide) (by decide) (by decide) (by decide) : agX [42] 46 σ σ3).tr2 g4 (by decide) (by decide) (by decide) (by decide), ?_⟩
    refine zCg_of hl0 rfl (Nat.le_of_ble_eq_true rfl) (fun x hG hxl hk hns hn0 => ?_)
    have hx : zHx l cL_span 6 (Option.some (Jvm.ClassFile.FieldType.object "java/lang/String")) 46 x := ⟨hG, hxl, hns, hn0.trans rfl⟩
    exact k1 x hx (k2 x hx (k3 x hx (k4 x hx hk)))
