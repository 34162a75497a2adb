/-! ===== span ===== -/
theorem nI_1s {k : Nat} : nI k + Int32.ofInt 1 = nI (k + 1) := by
  rw [show Int32.ofInt 1 = (1 : Int32) from by decide]
  exact nI_s k
theorem nI_nle2 {a b : Nat} (h : a < b) (hb : b < 2 ^ 31) : ¬ nI b ≤ nI a := fun z => absurd ((nI_leI hb (by omega)).mp z) (by omega)
/-- a cell that names cells below M alone -/
def zbl (M : Nat) : zDs → Bool
  | .inl (_, fl) => fl.all (fun q => q.1 != 1 || decide (q.2 < M))
  | .inr (t, b) => decide (t < 7) || decide (b + t ≤ M + 7)
theorem zbl_rok {M N : Nat} {d : zDs} (h : zbl M d = true) (hN : M ≤ N) (h26 : 26 ≤ N) : zrokb N d = true := by
  rcases d with ⟨ci, fl⟩ | ⟨t, b⟩
  · refine List.all_eq_true.mpr fun q hq => ?_
    have h1 := List.all_eq_true.mp h q hq
    simp only [Bool.or_eq_true, bne_iff_ne, decide_eq_true_eq] at h1
    simp only [Bool.and_eq_true, Bool.or_eq_true, bne_iff_ne]
    exact ⟨h1.imp (fun z => z) (fun z => by omega), Or.inr ⟨by omega, by omega⟩⟩
  · have h1 : (decide (t < 7) || decide (b + t ≤ M + 7)) = true := h
    show (decide (t < 7) || (decide (N < b) || decide (b + t ≤ N + 7))) = true
    simp only [Bool.or_eq_true, decide_eq_true_eq] at h1 ⊢
    omega
theorem zbl_all {M N : Nat} {dl : List zDs} (h : dl.all (zbl M) = true) (hN : M ≤ N) (h26 : 26 ≤ N) : dl.all (zrokb N) = true := List.all_eq_true.mpr fun d hd => zbl_rok (List.all_eq_true.mp h d hd) hN h26
theorem sbIn_of {dl : List zDs} {i j : Nat} (hi : dl[i]? = some (zSB j)) (hj : dl[j]? = some (.inr (5, 0))) (hmj : zMv j = true) (hmi : zMv i = false) (h27 : i ≠ 27 ∧ j ≠ 27 ∧ j ≠ 24 ∧ j ≠ 25) (hoth : ∀ m, m < dl.length → m ≠ i → (dl[m]?.map (zrokb j)) = some true) (hl : dl.length < 890) (hl26 : 26 ≤ dl.length) (hb : dl.all (zbl dl.length) = true) : sbIn dl i j :=
  ⟨hi, ⟨0, hj⟩, hmj, hmi, h27.1, ⟨h27.2.2.1, h27.2.2.2, h27.2.1⟩, fun m d hd hm => by
    have h := hoth m (List.getElem?_eq_some_iff.mp hd).1 hm
    rw [hd] at h
    exact Option.some.inj h, hl, fun N hN _ => zbl_all hb hN (by omega)⟩
abbrev zW1 : List zDs := zD ++ [zDi]
abbrev zW3 : List zDs := zW1 ++ [zSB 44, .inr (5, 0)]
abbrev zW4 : List zDs := zW3 ++ [.inr (6, 0)]
abbrev zW6 : List zDs := zW4 ++ [zSB 47, .inr (5, 0)]
abbrev zW8 : List zDs := zW6 ++ [zST 49, .inr (5, 0)]
theorem zW6_42 : zW6[42]? = some zDi := by rfl
theorem zW4_42 : zW4[42]? = some zDi := by rfl
theorem zW6_46 : zW6[46]? = some (zSB 47) := by rfl
theorem zW6_S46 : sbIn zW6 46 47 := sbIn_of rfl rfl rfl rfl (by decide) (by decide +kernel) (by decide +kernel) (by decide +kernel) (by decide +kernel)
theorem zo42_6 : zoks zW6.length (.ref 42) = true := by rfl
theorem zo46_6 : zoks zW6.length (.ref 46) = true := by rfl
theorem zk42_6 : zok zW6.length (.ref 42) = true := by rfl
theorem zk46_6 : zok zW6.length (.ref 46) = true := by rfl
/-- what a walk of the law's method goes by -/
abbrev zHx (l : Launch) (cc : ByteArray) (nL : Nat) (ret : Option FieldType) (n0 : Nat) (x : zXx) : Prop := zG x cc nL RL ret ∧ zl0 x = l ∧ ¬ zca x 99 = zca x 98 ∧ x.2.2.2.2.2.2.2.2.2.2.2.2.2.2.1 = n0
theorem dL_span_0 : decode cL_span 0 = .ok (.new 8, 3) := by decide +kernel
theorem dL_span_3 : decode cL_span 3 = .ok (.dup, 1) := by decide +kernel
theorem dL_span_4 : decode cL_span 4 = .ok (.invokespecial 10, 3) := by decide +kernel
theorem dL_span_7 : decode cL_span 7 = .ok (.astore_n 2, 1) := by decide +kernel
theorem dL_span_8 : decode cL_span 8 = .ok (.iconst 1, 1) := by decide +kernel
theorem dL_span_9 : decode cL_span 9 = .ok (.aload_n 0, 1) := by decide +kernel
theorem dL_span_10 : decode cL_span 10 = .ok (.iconst 2, 1) := by decide +kernel
theorem dL_span_11 : decode cL_span 11 = .ok (.invokevirtual 11, 3) := by decide +kernel
theorem dL_span_14 : decode cL_span 14 = .ok (.iadd, 1) := by decide +kernel
theorem dL_span_15 : decode cL_span 15 = .ok (.istore_n 3, 1) := by decide +kernel
theorem dL_span_16 : decode cL_span 16 = .ok (.iconst 0, 1) := by decide +kernel
theorem dL_span_17 : decode cL_span 17 = .ok (.istore 4, 2) := by decide +kernel
theorem dL_span_19 : decode cL_span 19 = .ok (.iload 4, 2) := by decide +kernel
theorem dL_span_21 : decode cL_span 21 = .ok (.iload_n 3, 1) := by decide +kernel
theorem dL_span_22 : decode cL_span 22 = .ok (.if_icmp .ge 67, 3) := by decide +kernel
theorem dL_span_25 : decode cL_span 25 = .ok (.aload_n 0, 1) := by decide +kernel
theorem dL_span_26 : decode cL_span 26 = .ok (.iload_n 1, 1) := by decide +kernel
theorem dL_span_27 : decode cL_span 27 = .ok (.invokevirtual 11, 3) := by decide +kernel
theorem dL_span_30 : decode cL_span 30 = .ok (.istore 5, 2) := by decide +kernel
theorem dL_span_32 : decode cL_span 32 = .ok (.aload_n 2, 1) := by decide +kernel
theorem dL_span_33 : decode cL_span 33 = .ok (.iload 4, 2) := by decide +kernel
theorem dL_span_35 : decode cL_span 35 = .ok (.ifCond .le 8, 3) := by decide +kernel
theorem dL_span_38 : decode cL_span 38 = .ok (.ldc 17, 2) := by decide +kernel
theorem dL_span_40 : decode cL_span 40 = .ok (.goto 5, 3) := by decide +kernel
theorem dL_span_43 : decode cL_span 43 = .ok (.ldc 19, 2) := by decide +kernel
theorem dL_span_45 : decode cL_span 45 = .ok (.invokevirtual 21, 3) := by decide +kernel
theorem dL_span_48 : decode cL_span 48 = .ok (.iload 5, 2) := by decide +kernel
theorem dL_span_50 : decode cL_span 50 = .ok (.invokevirtual 25, 3) := by decide +kernel
theorem dL_span_53 : decode cL_span 53 = .ok (.pop, 1) := by decide +kernel
theorem dL_span_54 : decode cL_span 54 = .ok (.aload_n 0, 1) := by decide +kernel
theorem dL_span_55 : decode cL_span 55 = .ok (.iconst 3, 1) := by decide +kernel
theorem dL_span_56 : decode cL_span 56 = .ok (.invokevirtual 11, 3) := by decide +kernel
theorem dL_span_59 : decode cL_span 59 = .ok (.ifCond .ne 24, 3) := by decide +kernel
theorem dL_span_62 : decode cL_span 62 = .ok (.aload_n 2, 1) := by decide +kernel
theorem dL_span_63 : decode cL_span 63 = .ok (.ldc 28, 2) := by decide +kernel
theorem dL_span_65 : decode cL_span 65 = .ok (.invokevirtual 21, 3) := by decide +kernel
theorem dL_span_68 : decode cL_span 68 = .ok (.iload 5, 2) := by decide +kernel
theorem dL_span_70 : decode cL_span 70 = .ok (.aload_n 0, 1) := by decide +kernel
theorem dL_span_71 : decode cL_span 71 = .ok (.iload_n 1, 1) := by decide +kernel
theorem dL_span_72 : decode cL_span 72 = .ok (.iload 5, 2) := by decide +kernel
theorem dL_span_74 : decode cL_span 74 = .ok (.isub, 1) := by decide +kernel
theorem dL_span_75 : decode cL_span 75 = .ok (.invokevirtual 11, 3) := by decide +kernel
theorem dL_span_78 : decode cL_span 78 = .ok (.iadd, 1) := by decide +kernel
theorem dL_span_79 : decode cL_span 79 = .ok (.invokevirtual 25, 3) := by decide +kernel
theorem dL_span_82 : decode cL_span 82 = .ok (.pop, 1) := by decide +kernel
theorem dL_span_83 : decode cL_span 83 = .ok (.iinc 4 1, 3) := by decide +kernel
theorem dL_span_86 : decode cL_span 86 = .ok (.goto (-67), 3) := by decide +kernel
theorem dL_span_89 : decode cL_span 89 = .ok (.aload_n 2, 1) := by decide +kernel
theorem dL_span_90 : decode cL_span 90 = .ok (.invokevirtual 30, 3) := by decide +kernel
theorem dL_span_93 : decode cL_span 93 = .ok (.areturn, 1) := by decide +kernel
theorem sp1_0 {l : Launch} (hl0 : l.flags = flags0) {m n : Nat} {L : List Nat} {σ : zS} (hm : 2 ≤ m ∧ m ≤ 5) (hn : 0 < n ∧ n ≤ 2) (hL : sbL σ 46 47 L) (hln : L.length + 10 ≤ 499) {A B : Nat} : ∃ σ' a r, a < m ∧ sbL σ' 46 47 (L ++ ([] : List Nat) ++ [48 + a]) ∧ agX [42] 46 σ σ' ∧ ∀ x, zHx l cL_span 6 (Option.some (Jvm.ClassFile.FieldType.object "java/lang/String")) 46 x → zK x 6 59 [(5, .int (nI a)), (4, .int (nI 0)), (3, .int (nI n)), (2, .ref 46), (0, .ref 42), (1, .int (nI m))] [.int (nI r)] zW6 σ' A B → zK x 6 19 [(4, .int (nI 0)), (3, .int (nI n)), (2, .ref 46), (0, .ref 42), (1, .int (nI m))] [] zW6 σ (A + 2) (B + 2000) := by
  obtain ⟨r1, v1, hr1, c1⟩ := c_of hl0 (dl := zW6) (σ := σ) (d := 42) (m := m) zW6_42 (by omega) (by omega)
  have L1 : sbL (zi σ 42 0 v1) 46 47 (L) := sbL_ag (zi_ag (N := 60)) (by decide) (by decide) (by decide) (by decide) hL
  have G2 : agX [42] 46 σ (zi σ 42 0 v1) := agX.tr2 (agX.rf (X := []) (N := 46)) (zi_ag (N := 60)) (by decide) (by decide) (by decide) (by decide)
  obtain ⟨s3, c3, L3, g3⟩ := a_T hl0 zW6_S46 L1 (q := 1009) (w := ([] : List Nat)) rfl (by decide) (by simp only [List.length_append, List.length_cons, List.length_nil]; omega)
  have G4 : agX [42] 46 σ s3 := G2.tr2 (g3) (by decide) (by decide) (by decide) (by decide)
  obtain ⟨s5, c5, L5, g5⟩ := a_I hl0 zW6_S46 L3 (k := r1) (by omega) (by simp only [List.length_append, List.length_cons, List.length_nil]; omega)
  have G6 : agX [42] 46 σ s5 := G4.tr2 (g5) (by decide) (by decide) (by decide) (by decide)
  obtain ⟨r7, v7, hr7, c7⟩ := c_of hl0 (dl := zW6) (σ := s5) (d := 42) (m := 3) zW6_42 (by decide) (by decide)
  have L7 : sbL (zi s5 42 0 v7) 46 47 (L ++ ([] : List Nat) ++ [48 + r1]) := sbL_ag (zi_ag (N := 60)) (by decide) (by decide) (by decide) (by decide) L5
  have G8 : agX [42] 46 σ (zi s5 42 0 v7) := G6.tr2 (zi_ag (N := 60)) (by decide) (by decide) (by decide) (by decide)
  refine ⟨_, r1, r7, hr1, L7, G8, ?_⟩
  rintro x ⟨hG, hxl, hns, hn0⟩ kk
  subst hxl
  refine z_iload (pc := 19) hG 0 rfl dL_span_19 ?_
  refine z_iload_n (pc := 21) hG 1 rfl rfl dL_span_21 ?_
  refine z_icmp_ge (pc := 22) (tgt := 89) hG dL_span_22 rfl (fun hbr => False.elim ((fun h => (nI_nle2 (show 0 < n by omega) (by omega)) h) hbr)) (fun _ => ?_)
  refine z_aload_n (pc := 25) hG 3 rfl rfl dL_span_25 ?_
  refine z_iload_n (pc := 26) hG 4 rfl rfl dL_span_26 ?_
  refine z_virtS (pc := 27) (A' := A + 2) (B' := B + 2000) (st2 := [.int ((nI r1))]) (v := some (.int ((nI r1)))) hG [.int ((nI m))] [] zc_X11 zW6_42 (c1) zy_X11_of ⟨w833, w834⟩ w832 dL_span_27 rfl (Nat.le_of_ble_eq_true rfl) (Nat.le_refl _) rfl (zand rfl (zand rfl (zand zo46_6 (zand zo42_6 (zand rfl rfl))))) rfl rfl (Nat.le_of_ble_eq_true rfl) rfl rfl ?_
  refine z_istore (pc := 30) (ls' := [(5, .int ((nI r1))), (4, .int ((nI 0))), (3, .int ((nI n))), (2, .ref 46), (0, .ref 42), (1, .int ((nI m)))]) hG [0, 1, 2, 3, 4, 5] (by decide) rfl dL_span_30 ?_
  refine z_aload_n (pc := 32) hG 3 rfl rfl dL_span_32 ?_
  refine z_iload (pc := 33) hG 1 rfl dL_span_33 ?_
  refine z_if_le (pc := 35) (tgt := 43) hG dL_span_35 rfl (fun _ => ?_) (fun hbr => False.elim (hbr (by decide)))
  refine z_lds (pc := 43) hG (by decide : (RL, 19, "", 1009) ∈ zrefs) dL_span_43 ?_
  refine z_virtG (pc := 45) (A' := A + 1) (B' := B + 1000) (st2 := [.ref 46]) (v := some (.ref 46)) hG hns [.ref 1009] [] zc_J4 zW6_46 (c3) zy_J4_append_15ec4 ⟨w839, w840⟩ w838 dL_span_45 rfl (Nat.le_of_ble_eq_true rfl) (Nat.le_refl _) rfl (zand rfl (zand rfl (zand rfl (zand zk46_6 (zand zk42_6 (zand rfl rfl)))))) rfl rfl (Nat.le_of_ble_eq_true rfl) rfl rfl ?_
  refine z_iload (pc := 48) hG 0 rfl dL_span_48 ?_
  refine z_virtG (pc := 50) (A' := A + 0) (B' := B + 0) (st2 := [.ref 46]) (v := some (.ref 46)) hG hns [.int ((nI r1))] [] zc_J4 zW6_46 (c5) zy_J4_append_bf812 ⟨w975, w976⟩ w974 dL_span_50 rfl (Nat.le_of_ble_eq_true rfl) (Nat.le_refl _) rfl (zand rfl (zand rfl (zand rfl (zand zk46_6 (zand zk42_6 (zand rfl rfl)))))) rfl rfl (Nat.le_of_ble_eq_true rfl) rfl rfl ?_
  refine z_pop (pc := 53) hG rfl dL_span_53 ?_
  refine z_aload_n (pc := 54) hG 4 rfl rfl dL_span_54 ?_
  refine z_iconst (pc := 55) (v := (3 : Int32)) hG (by decide) dL_span_55 ?_
  refine z_virtS (pc := 56) (A' := A + 0) (B' := B + 0) (st2 := [.int ((nI r7))]) (v := some (.int ((nI r7)))) hG [.int ((3 : Int32))] [] zc_X11 zW6_42 (c7) zy_X11_of ⟨w833, w834⟩ w832 dL_span_56 rfl (Nat.le_of_ble_eq_true rfl) (Nat.le_refl _) rfl (zand rfl (zand rfl (zand rfl (zand zo46_6 (zand zo42_6 (zand rfl rfl)))))) rfl rfl (Nat.le_of_ble_eq_true rfl) rfl rfl ?_
  exact kk
theorem sp1_1 {l : Launch} (hl0 : l.flags = flags0) {m n : Nat} {L : List Nat} {σ : zS} (hm : 2 ≤ m ∧ m ≤ 5) (hn : 1 < n ∧ n ≤ 2) (hL : sbL σ 46 47 L) (hln : L.length + 10 ≤ 499) {A B : Nat} : ∃ σ' a r, a < m ∧ sbL σ' 46 47 (L ++ [44] ++ [48 + a]) ∧ agX [42] 46 σ σ' ∧ ∀ x, zHx l cL_span 6 (Option.some (Jvm.ClassFile.FieldType.object "java/lang/String")) 46 x → zK x 6 59 [(5, .int (nI a)), (4, .int (nI 1)), (3, .int (nI n)), (2, .ref 46), (0, .ref 42), (1, .int (nI m))] [.int (nI r)] zW6 σ' A B → zK x 6 19 [(4, .int (nI 1)), (3, .int (nI n)), (2, .ref 46), (0, .ref 42), (1, .int (nI m))] [] zW6 σ (A + 2) (B + 2000) := by
  obtain ⟨r1, v1, hr1, c1⟩ := c_of hl0 (dl := zW6) (σ := σ) (d := 42) (m := m) zW6_42 (by omega) (by omega)
  have L1 : sbL (zi σ 42 0 v1) 46 47 (L) := sbL_ag (zi_ag (N := 60)) (by decide) (by decide) (by decide) (by decide) hL
  have G2 : agX [42] 46 σ (zi σ 42 0 v1) := agX.tr2 (agX.rf (X := []) (N := 46)) (zi_ag (N := 60)) (by decide) (by decide) (by decide) (by decide)
  obtain ⟨s3, c3, L3, g3⟩ := a_T hl0 zW6_S46 L1 (q := 1008) (w := [44]) rfl (by decide) (by simp only [List.length_append, List.length_cons, List.length_nil]; omega)
  have G4 : agX [42] 46 σ s3 := G2.tr2 (g3) (by decide) (by decide) (by decide) (by decide)
  obtain ⟨s5, c5, L5, g5⟩ := a_I hl0 zW6_S46 L3 (k := r1) (by omega) (by simp only [List.length_append, List.length_cons, List.length_nil]; omega)
  have G6 : agX [42] 46 σ s5 := G4.tr2 (g5) (by decide) (by decide) (by decide) (by decide)
  obtain ⟨r7, v7, hr7, c7⟩ := c_of hl0 (dl := zW6) (σ := s5) (d := 42) (m := 3) zW6_42 (by decide) (by decide)
  have L7 : sbL (zi s5 42 0 v7) 46 47 (L ++ [44] ++ [48 + r1]) := sbL_ag (zi_ag (N := 60)) (by decide) (by decide) (by decide) (by decide) L5
  have G8 : agX [42] 46 σ (zi s5 42 0 v7) := G6.tr2 (zi_ag (N := 60)) (by decide) (by decide) (by decide) (by decide)
  refine ⟨_, r1, r7, hr1, L7, G8, ?_⟩
  rintro x ⟨hG, hxl, hns, hn0⟩ kk
  subst hxl
  refine z_iload (pc := 19) hG 0 rfl dL_span_19 ?_
  refine z_iload_n (pc := 21) hG 1 rfl rfl dL_span_21 ?_
  refine z_icmp_ge (pc := 22) (tgt := 89) hG dL_span_22 rfl (fun hbr => False.elim ((fun h => (nI_nle2 (show 1 < n by omega) (by omega)) h) hbr)) (fun _ => ?_)
  refine z_aload_n (pc := 25) hG 3 rfl rfl dL_span_25 ?_
  refine z_iload_n (pc := 26) hG 4 rfl rfl dL_span_26 ?_
  refine z_virtS (pc := 27) (A' := A + 2) (B' := B + 2000) (st2 := [.int ((nI r1))]) (v := some (.int ((nI r1)))) hG [.int ((nI m))] [] zc_X11 zW6_42 (c1) zy_X11_of ⟨w833, w834⟩ w832 dL_span_27 rfl (Nat.le_of_ble_eq_true rfl) (Nat.le_refl _) rfl (zand rfl (zand rfl (zand zo46_6 (zand zo42_6 (zand rfl rfl))))) rfl rfl (Nat.le_of_ble_eq_true rfl) rfl rfl ?_
  refine z_istore (pc := 30) (ls' := [(5, .int ((nI r1))), (4, .int ((nI 1))), (3, .int ((nI n))), (2, .ref 46), (0, .ref 42), (1, .int ((nI m)))]) hG [0, 1, 2, 3, 4, 5] (by decide) rfl dL_span_30 ?_
  refine z_aload_n (pc := 32) hG 3 rfl rfl dL_span_32 ?_
  refine z_iload (pc := 33) hG 1 rfl dL_span_33 ?_
  refine z_if_le (pc := 35) (tgt := 43) hG dL_span_35 rfl (fun hbr => False.elim ((fun h => absurd h (by decide)) hbr)) (fun _ => ?_)
  refine z_lds (pc := 38) hG (by decide : (RL, 17, ",", 1008) ∈ zrefs) dL_span_38 ?_
  refine z_goto (pc := 40) (tgt := 45) hG dL_span_40 rfl ?_
  refine z_virtG (pc := 45) (A' := A + 1) (B' := B + 1000) (st2 := [.ref 46]) (v := some (.ref 46)) hG hns [.ref 1008] [] zc_J4 zW6_46 (c3) zy_J4_append_15ec4 ⟨w839, w840⟩ w838 dL_span_45 rfl (Nat.le_of_ble_eq_true rfl) (Nat.le_refl _) rfl (zand rfl (zand rfl (zand rfl (zand zk46_6 (zand zk42_6 (zand rfl rfl)))))) rfl rfl (Nat.le_of_ble_eq_true rfl) rfl rfl ?_
  refine z_iload (pc := 48) hG 0 rfl dL_span_48 ?_
  refine z_virtG (pc := 50) (A' := A + 0) (B' := B + 0) (st2 := [.ref 46]) (v := some (.ref 46)) hG hns [.int ((nI r1))] [] zc_J4 zW6_46 (c5) zy_J4_append_bf812 ⟨w975, w976⟩ w974 dL_span_50 rfl (Nat.le_of_ble_eq_true rfl) (Nat.le_refl _) rfl (zand rfl (zand rfl (zand rfl (zand zk46_6 (zand zk42_6 (zand rfl rfl)))))) rfl rfl (Nat.le_of_ble_eq_true rfl) rfl rfl ?_
  refine z_pop (pc := 53) hG rfl dL_span_53 ?_
  refine z_aload_n (pc := 54) hG 4 rfl rfl dL_span_54 ?_
  refine z_iconst (pc := 55) (v := (3 : Int32)) hG (by decide) dL_span_55 ?_
  refine z_virtS (pc := 56) (A' := A + 0) (B' := B + 0) (st2 := [.int ((nI r7))]) (v := some (.int ((nI r7)))) hG [.int ((3 : Int32))] [] zc_X11 zW6_42 (c7) zy_X11_of ⟨w833, w834⟩ w832 dL_span_56 rfl (Nat.le_of_ble_eq_true rfl) (Nat.le_refl _) rfl (zand rfl (zand rfl (zand rfl (zand zo46_6 (zand zo42_6 (zand rfl rfl)))))) rfl rfl (Nat.le_of_ble_eq_true rfl) rfl rfl ?_
  exact kk
theorem sp2 {l : Launch} (hl0 : l.flags = flags0) {m n : Nat} {L : List Nat} {σ : zS} {a k : Nat} (hm : 2 ≤ m ∧ m ≤ 5) (ha : a < m) (hL : sbL σ 46 47 L) (hln : L.length + 10 ≤ 499) {A B : Nat} : ∃ σ' r, r < m - a ∧ sbL σ' 46 47 (L ++ [45] ++ [48 + (a + r)]) ∧ agX [42] 46 σ σ' ∧ ∀ x, zHx l cL_span 6 (Option.some (Jvm.ClassFile.FieldType.object "java/lang/String")) 46 x → zK x 6 83 [(5, .int (nI a)), (4, .int (nI k)), (3, .int (nI n)), (2, .ref 46), (0, .ref 42), (1, .int (nI m))] [] zW6 σ' A B → zK x 6 62 [(5, .int (nI a)), (4, .int (nI k)), (3, .int (nI n)), (2, .ref 46), (0, .ref 42), (1, .int (nI m))] [] zW6 σ (A + 2) (B + 2000) := by
  obtain ⟨s1, c1, L1, g1⟩ := a_T hl0 zW6_S46 hL (q := 1010) (w := [45]) rfl (by decide) (by simp only [List.length_append, List.length_cons, List.length_nil]; omega)
  have G2 : agX [42] 46 σ s1 := agX.tr2 (agX.rf (X := []) (N := 46)) (g1) (by decide) (by decide) (by decide) (by decide)
  obtain ⟨r3, v3, hr3, c3⟩ := c_of hl0 (dl := zW6) (σ := s1) (d := 42) (m := (m - a)) zW6_42 (by omega) (by omega)
  have L3 : sbL (zi s1 42 0 v3) 46 47 (L ++ [45]) := sbL_ag (zi_ag (N := 60)) (by decide) (by decide) (by decide) (by decide) L1
  have G4 : agX [42] 46 σ (zi s1 42 0 v3) := G2.tr2 (zi_ag (N := 60)) (by decide) (by decide) (by decide) (by decide)
  obtain ⟨s5, c5, L5, g5⟩ := a_I hl0 zW6_S46 L3 (k := (a + r3)) (by omega) (by simp only [List.length_append, List.length_cons, List.length_nil]; omega)
  have G6 : agX [42] 46 σ s5 := G4.tr2 (g5) (by decide) (by decide) (by decide) (by decide)
  refine ⟨_, r3, hr3, L5, G6, ?_⟩
  rintro x ⟨hG, hxl, hns, hn0⟩ kk
  subst hxl
  refine z_aload_n (pc := 62) hG 3 rfl rfl dL_span_62 ?_
  refine z_lds (pc := 63) hG (by decide : (RL, 28, "-", 1010) ∈ zrefs) dL_span_63 ?_
  refine z_virtG (pc := 65) (A' := A + 1) (B' := B + 1000) (st2 := [.ref 46]) (v := some (.ref 46)) hG hns [.ref 1010] [] zc_J4 zW6_46 (c1) zy_J4_append_15ec4 ⟨w839, w840⟩ w838 dL_span_65 rfl (Nat.le_of_ble_eq_true rfl) (Nat.le_refl _) rfl (zand rfl (zand rfl (zand rfl (zand zk46_6 (zand zk42_6 (zand rfl rfl)))))) rfl rfl (Nat.le_of_ble_eq_true rfl) rfl rfl ?_
  refine z_iload (pc := 68) hG 0 rfl dL_span_68 ?_
  refine z_aload_n (pc := 70) hG 4 rfl rfl dL_span_70 ?_
  refine z_iload_n (pc := 71) hG 5 rfl rfl dL_span_71 ?_
  refine z_iload (pc := 72) hG 0 rfl dL_span_72 ?_
  refine z_isub (pc := 74) hG dL_span_74 ?_
  rw [show ((nI m) - (nI a)) = (nI (m - a)) from nI_sub (by omega)]
  refine z_virtS (pc := 75) (A' := A + 1) (B' := B + 1000) (st2 := [.int ((nI r3)), .int ((nI a)), .ref 46]) (v := some (.int ((nI r3)))) hG [.int ((nI (m - a)))] [.int ((nI a)), .ref 46] zc_X11 zW6_42 (c3) zy_X11_of ⟨w833, w834⟩ w832 dL_span_75 rfl (Nat.le_of_ble_eq_true rfl) (Nat.le_refl _) (zand rfl (zand zo46_6 rfl)) (zand rfl (zand rfl (zand rfl (zand zo46_6 (zand zo42_6 (zand rfl rfl)))))) rfl rfl (Nat.le_of_ble_eq_true rfl) rfl rfl ?_
  refine z_iadd (pc := 78) hG dL_span_78 ?_
  rw [show ((nI a) + (nI r3)) = (nI (a + r3)) from nI_add a r3]
  refine z_virtG (pc := 79) (A' := A + 0) (B' := B + 0) (st2 := [.ref 46]) (v := some (.ref 46)) hG hns [.int ((nI (a + r3)))] [] zc_J4 zW6_46 (c5) zy_J4_append_bf812 ⟨w975, w976⟩ w974 dL_span_79 rfl (Nat.le_of_ble_eq_true rfl) (Nat.le_refl _) rfl (zand rfl (zand rfl (zand rfl (zand zk46_6 (zand zk42_6 (zand rfl rfl)))))) rfl rfl (Nat.le_of_ble_eq_true rfl) rfl rfl ?_
  refine z_pop (pc := 82) hG rfl dL_span_82 ?_
  exact kk
theorem sp_0 {l : Launch} (hl0 : l.flags = flags0) {m n : Nat} {L : List Nat} {σ : zS} (hm : 2 ≤ m ∧ m ≤ 5) (hn : 0 < n ∧ n ≤ 2) (hL : sbL σ 46 47 L) (hln : L.length + 20 ≤ 499) {A B : Nat} : ∃ σ' v u b, spO (m - 1) v u b ∧ sbL σ' 46 47 (L ++ (([] : List Nat) ++ sb v u b)) ∧ agX [42] 46 σ σ' ∧ ∀ x, zHx l cL_span 6 (Option.some (Jvm.ClassFile.FieldType.object "java/lang/String")) 46 x → zK x 6 19 [(4, .int (nI 1)), (3, .int (nI n)), (2, .ref 46), (0, .ref 42), (1, .int (nI m))] [] zW6 σ' A B → zK x 6 19 [(4, .int (nI 0)), (3, .int (nI n)), (2, .ref 46), (0, .ref 42), (1, .int (nI m))] [] zW6 σ (A + 4) (B + 4000) := by
  obtain ⟨σ1, a, r, ha, h1, g1, k1⟩ := sp1_0 hl0 hm hn hL (by omega) (A := A + 2) (B := B + 2000)
  have htail : ∀ (σ' : zS) (A B : Nat) (x : zXx), zHx l cL_span 6 (Option.some (Jvm.ClassFile.FieldType.object "java/lang/String")) 46 x → zK x 6 19 [(4, .int (nI 1)), (3, .int (nI n)), (2, .ref 46), (0, .ref 42), (1, .int (nI m))] [] zW6 σ' A B → zK x 6 83 [(5, .int (nI a)), (4, .int (nI 0)), (3, .int (nI n)), (2, .ref 46), (0, .ref 42), (1, .int (nI m))] [] zW6 σ' A B := by
    rintro σ' A B x ⟨hG, hxl, hns, hn0⟩ kk
    refine z_iinc (pc := 83) (v := (nI 1)) (ls' := [(4, .int (nI 1)), (5, .int (nI a)), (3, .int (nI n)), (2, .ref 46), (0, .ref 42), (1, .int (nI m))]) hG 1 rfl [0, 1, 2, 3, 4, 5] (nI_1s (k := 0)) (by decide) rfl dL_span_83 ?_
    refine z_goto (pc := 86) (tgt := 19) hG dL_span_86 rfl ?_
    refine z_sub [0, 2, 3, 4, 5] rfl ?_
    exact kk
  by_cases hr : nI r = 0
  · obtain ⟨σ2, r2, hr2, h2, g2, k2⟩ := sp2 hl0 (n := n) (k := 0) hm ha h1 (by simp only [List.length_append, List.length_cons, List.length_nil]; omega) (A := A) (B := B)
    refine ⟨σ2, a, a + r2, true, ⟨by omega, by omega, fun z => by cases z⟩, ?_, g1.tr2 g2 (by decide) (by decide) (by decide) (by decide), fun x hx kk => k1 x hx ?_⟩
    · have e : L ++ (([] : List Nat) ++ sb a (a + r2) true) = L ++ ([] : List Nat) ++ [48 + a] ++ [45] ++ [48 + (a + r2)] := by simp [sb]
      rw [e]
      exact h2
    · have hG := hx.1
      refine z_if_ne (pc := 59) (tgt := 83) hG dL_span_59 rfl (fun hbr => False.elim (hbr hr)) (fun _ => ?_)
      exact k2 x hx (htail _ _ _ x hx kk)
  · refine ⟨σ1, a, a, false, ⟨by omega, by omega, fun _ => rfl⟩, ?_, g1, fun x hx kk => k1 x hx ?_⟩
    · have e : L ++ (([] : List Nat) ++ sb a a false) = L ++ ([] : List Nat) ++ [48 + a] := by simp [sb]
      rw [e]
      exact h1
    · have hG := hx.1
      refine z_if_ne (pc := 59) (tgt := 83) hG dL_span_59 rfl (fun _ => ?_) (fun hbr => False.elim (hr hbr))
      exact z_wk (Nat.le_add_right _ _) (Nat.le_add_right _ _) (htail _ _ _ x hx kk)
theorem sp_1 {l : Launch} (hl0 : l.flags = flags0) {m n : Nat} {L : List Nat} {σ : zS} (hm : 2 ≤ m ∧ m ≤ 5) (hn : 1 < n ∧ n ≤ 2) (hL : sbL σ 46 47 L) (hln : L.length + 20 ≤ 499) {A B : Nat} : ∃ σ' v u b, spO (m - 1) v u b ∧ sbL σ' 46 47 (L ++ ([44] ++ sb v u b)) ∧ agX [42] 46 σ σ' ∧ ∀ x, zHx l cL_span 6 (Option.some (Jvm.ClassFile.FieldType.object "java/lang/String")) 46 x → zK x 6 19 [(4, .int (nI 2)), (3, .int (nI n)), (2, .ref 46), (0, .ref 42), (1, .int (nI m))] [] zW6 σ' A B → zK x 6 19 [(4, .int (nI 1)), (3, .int (nI n)), (2, .ref 46), (0, .ref 42), (1, .int (nI m))] [] zW6 σ (A + 4) (B + 4000) := by
  obtain ⟨σ1, a, r, ha, h1, g1, k1⟩ := sp1_1 hl0 hm hn hL (by omega) (A := A + 2) (B := B + 2000)
  have htail : ∀ (σ' : zS) (A B : Nat) (x : zXx), zHx l cL_span 6 (Option.some (Jvm.ClassFile.FieldType.object "java/lang/String")) 46 x → zK x 6 19 [(4, .int (nI 2)), (3, .int (nI n)), (2, .ref 46), (0, .ref 42), (1, .int (nI m))] [] zW6 σ' A B → zK x 6 83 [(5, .int (nI a)), (4, .int (nI 1)), (3, .int (nI n)), (2, .ref 46), (0, .ref 42), (1, .int (nI m))] [] zW6 σ' A B := by
    rintro σ' A B x ⟨hG, hxl, hns, hn0⟩ kk
    refine z_iinc (pc := 83) (v := (nI 2)) (ls' := [(4, .int (nI 2)), (5, .int (nI a)), (3, .int (nI n)), (2, .ref 46), (0, .ref 42), (1, .int (nI m))]) hG 1 rfl [0, 1, 2, 3, 4, 5] (nI_1s (k := 1)) (by decide) rfl dL_span_83 ?_
    refine z_goto (pc := 86) (tgt := 19) hG dL_span_86 rfl ?_
    refine z_sub [0, 2, 3, 4, 5] rfl ?_
    exact kk
  by_cases hr : nI r = 0
  · obtain ⟨σ2, r2, hr2, h2, g2, k2⟩ := sp2 hl0 (n := n) (k := 1) hm ha h1 (by simp only [List.length_append, List.length_cons, List.length_nil]; omega) (A := A) (B := B)
    refine ⟨σ2, a, a + r2, true, ⟨by omega, by omega, fun z => by cases z⟩, ?_, g1.tr2 g2 (by decide) (by decide) (by decide) (by decide), fun x hx kk => k1 x hx ?_⟩
    · have e : L ++ ([44] ++ sb a (a + r2) true) = L ++ [44] ++ [48 + a] ++ [45] ++ [48 + (a + r2)] := by simp [sb]
      rw [e]
      exact h2
    · have hG := hx.1
      refine z_if_ne (pc := 59) (tgt := 83) hG dL_span_59 rfl (fun hbr => False.elim (hbr hr)) (fun _ => ?_)
      exact k2 x hx (htail _ _ _ x hx kk)
  · refine ⟨σ1, a, a, false, ⟨by omega, by omega, fun _ => rfl⟩, ?_, g1, fun x hx kk => k1 x hx ?_⟩
    · have e : L ++ ([44] ++ sb a a false) = L ++ [44] ++ [48 + a] := by simp [sb]
      rw [e]
      exact h1
    · have hG := hx.1
      refine z_if_ne (pc := 59) (tgt := 83) hG dL_span_59 rfl (fun _ => ?_) (fun hbr => False.elim (hr hbr))
      exact z_wk (Nat.le_add_right _ _) (Nat.le_add_right _ _) (htail _ _ _ x hx kk)
