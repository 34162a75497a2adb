/-! ===== the law's walk: a row, all rows, the law ===== -/
theorem zbl_up {M N : Nat} {d : zDs} (h : zbl M d = true) (hN : M ≤ N) : zbl N d = true := by
  rcases d with ⟨ci, fl⟩ | ⟨t, b⟩
  · refine List.all_eq_true.mpr fun q hq => ?_
    have h1 := List.all_eq_true.mp h q hq
    rw [Bool.or_eq_true] at h1 ⊢
    exact h1.imp (fun z => z) (fun z => decide_eq_true (Nat.lt_of_lt_of_le (of_decide_eq_true z) hN))
  · show (decide (t < 7) || decide (b + t ≤ N + 7)) = true
    have h1 : (decide (t < 7) || decide (b + t ≤ M + 7)) = true := h
    rw [Bool.or_eq_true] at h1 ⊢
    exact h1.imp (fun z => z) (fun z => decide_eq_true (by have := of_decide_eq_true z; omega))
theorem zEt_bl : (zD ++ zEt).all (zbl 48) = true := by decide
theorem zEf_bl (c n : Nat) : (zD ++ zEf c n).all (zbl (zD ++ zEf c n).length) = true := by
  rw [zEf_n]
  refine List.all_eq_true.mpr fun d hd => ?_
  unfold zEf at hd
  rw [← List.append_assoc] at hd
  rcases List.mem_append.mp hd with h | h
  · exact zbl_up (List.all_eq_true.mp zEt_bl d h) (by omega)
  · rcases List.mem_cons.mp h with rfl | h
    · show (decide (c + 7 < 7) || decide (49 + (c + 7) ≤ 49 + c + 7)) = true
      rw [Bool.or_eq_true]
      exact Or.inr (decide_eq_true (by omega))
    · rw [List.eq_of_mem_replicate h]
      rfl
def lwV (S : zSt) (c : Nat) (σ : zS) : Prop := cI S σ ∧ ∀ j, j < c → ∀ f, f < pn S.1 → σ.1 (49 + j) f = nI (mxv (pq S.1) (pn S.1) j f)
def lwH (l : Launch) (x : zXx) : Prop := (zG x cL_law 18 RL ret ∧ zl0 x = l) ∧ x.2.2.2.2.2.2.2.2.2.2.2.2.2.2.1 = 0
theorem rr_beg {l : Launch} (hl0 : l.flags = flags0) {S : zSt} {σ : zS} {c i : Nat} (hB : lwB S c i) {σ1 : zS} (hc : cI S σ) (h8 : S.2.1.1 ≤ 8) (kC : zC l yL_row cL_row 4 (Option.some (Jvm.ClassFile.FieldType.array Jvm.ClassFile.FieldType.int)) 10 9 52 [.ref 0, .int (nI i)] (zD ++ zEf c (pn S.1)) σ (.inl (some (.ref (49 + c))), zD ++ zEg c (pn S.1), σ1)) : ∀ (A B : Nat) x, zG x cL_law 18 RL ret ∧ zl0 x = l → zK x 70 43 [(7, .int (nI 0)), (6, .int (nI (rmis (S.2.1.2.1 i) 0))), (5, .ref (49 + c)), (4, .int (nI i)), (3, .ref 48), (2, .int (nI (pn S.1))), (1, .ref 0), (0, .ref 1041)] [] (zD ++ zEg c (pn S.1)) σ1 A B → zK x 70 19 [(4, .int (nI i)), (3, .ref 48), (2, .int (nI (pn S.1))), (1, .ref 0), (0, .ref 1041)] [] (zD ++ zEf c (pn S.1)) σ (A + 9) (B + 52) := by
  have hle : (zD ++ zEf c (pn S.1)).length ≤ (zD ++ zEg c (pn S.1)).length := by
    rw [zEg_e]
    simp only [List.length_append]
    exact Nat.le_add_right _ _
  rintro A B x ⟨hG, hxl⟩ kk
  subst hxl
  refine z_iload (pc := 19) hG 0 rfl dL_law_19 ?_
  refine z_aload_n (pc := 21) hG 3 rfl rfl dL_law_21 ?_
  refine z_iconst (pc := 22) (v := (2 : Int32)) hG (by decide) dL_law_22 ?_
  refine z_virtS (pc := 23) (A' := A + 9) (B' := B + 52) (st2 := [.int ((nI S.2.1.1)), .int ((nI i))]) (v := some (.int ((nI S.2.1.1)))) hG [.int ((2 : Int32))] [.int ((nI i))] zc_X10 (zEo_0 _) (q_count2 hl0 (zEf_f c (pn S.1)) hc) zy_X10_count ⟨w480, w481⟩ w479 dL_law_23 rfl (Nat.le_of_ble_eq_true rfl) (Nat.le_refl _) (zand rfl rfl) (zand rfl (zand (zoks_of (zEf_48 c (pn S.1)) (by decide)) (zand rfl (zand (zo_0 _) (zand (zoks_hi (by decide)) rfl))))) rfl rfl (Nat.le_of_ble_eq_true rfl) rfl rfl ?_
  refine z_icmp_ge (pc := 26) (tgt := 845) hG dL_law_26 rfl (fun hbr => False.elim ((fun h => nI_nle2 hB.2.2 (by omega) h) hbr)) (fun _ => ?_)
  refine z_aload_n (pc := 29) hG 3 rfl rfl dL_law_29 ?_
  refine z_iload (pc := 30) hG 0 rfl dL_law_30 ?_
  refine z_statS (pc := 32) (A' := A) (B' := B) (st2 := [.ref (49 + c)]) (v := some (.ref (49 + c))) hG [.ref 0, .int ((nI i))] [] (kC) zy_L_row w1258 w1257 dL_law_32 rfl (Nat.le_of_ble_eq_true rfl) hle rfl (zand rfl (zand (zoks_of (zEf_48 c (pn S.1)) (by decide)) (zand rfl (zand (zo_0 _) (zand (zoks_hi (by decide)) rfl))))) rfl rfl (Nat.le_of_ble_eq_true rfl) rfl rfl ?_
  refine z_astore (pc := 35) (ls' := [(5, .ref (49 + c)), (4, .int ((nI i))), (3, .ref 48), (2, .int ((nI (pn S.1)))), (1, .ref 0), (0, .ref 1041)]) hG [0, 1, 2, 3, 4, 5] (by decide) rfl dL_law_35 ?_
  refine z_iconst (pc := 37) (v := (0 : Int32)) hG (by decide) dL_law_37 ?_
  refine z_istore (pc := 38) (ls' := [(6, .int ((0 : Int32))), (5, .ref (49 + c)), (4, .int ((nI i))), (3, .ref 48), (2, .int ((nI (pn S.1)))), (1, .ref 0), (0, .ref 1041)]) hG [0, 1, 2, 3, 4, 5, 6] (by decide) rfl dL_law_38 ?_
  refine z_iconst (pc := 40) (v := (0 : Int32)) hG (by decide) dL_law_40 ?_
  refine z_istore (pc := 41) (ls' := [(7, .int ((0 : Int32))), (6, .int ((0 : Int32))), (5, .ref (49 + c)), (4, .int ((nI i))), (3, .ref 48), (2, .int ((nI (pn S.1)))), (1, .ref 0), (0, .ref 1041)]) hG [0, 1, 2, 3, 4, 5, 6, 7] (by decide) rfl dL_law_41 ?_
  refine z_sub (ls' := [(7, .int (nI 0)), (6, .int (nI (rmis (S.2.1.2.1 i) 0))), (5, .ref (49 + c)), (4, .int (nI i)), (3, .ref 48), (2, .int (nI (pn S.1))), (1, .ref 0), (0, .ref 1041)]) [0, 1, 2, 3, 4, 5, 6, 7] rfl ?_
  exact kk
theorem rr_st {l : Launch} (hl0 : l.flags = flags0) {S : zSt} {σ : zS} {c i : Nat} : ∀ (A B : Nat) x, zG x cL_law 18 RL ret ∧ zl0 x = l → zK x 70 88 [(10, .int (nI 0)), (9, .int (nI 0)), (8, .int (nI 0)), (7, .int (-1)), (6, .int (nI (rmis (S.2.1.2.1 i) (pn S.1)))), (5, .ref (49 + c)), (4, .int (nI i)), (3, .ref 48), (2, .int (nI (pn S.1))), (1, .ref 0), (0, .ref 1041)] [] (zD ++ zEg c (pn S.1)) σ A B → zK x 70 76 [(7, .int (nI (pn S.1))), (6, .int (nI (rmis (S.2.1.2.1 i) (pn S.1)))), (5, .ref (49 + c)), (4, .int (nI i)), (3, .ref 48), (2, .int (nI (pn S.1))), (1, .ref 0), (0, .ref 1041)] [] (zD ++ zEg c (pn S.1)) σ A B := by
  rintro A B x ⟨hG, hxl⟩ kk
  subst hxl
  refine z_iconst (pc := 76) (v := (-1 : Int32)) hG (by decide) dL_law_76 ?_
  refine z_istore (pc := 77) (ls' := [(7, .int ((-1 : Int32))), (6, .int ((nI (rmis (S.2.1.2.1 i) (pn S.1))))), (5, .ref (49 + c)), (4, .int ((nI i))), (3, .ref 48), (2, .int ((nI (pn S.1)))), (1, .ref 0), (0, .ref 1041)]) hG [0, 1, 2, 3, 4, 5, 6, 7] (by decide) rfl dL_law_77 ?_
  refine z_iconst (pc := 79) (v := (0 : Int32)) hG (by decide) dL_law_79 ?_
  refine z_istore (pc := 80) (ls' := [(8, .int ((0 : Int32))), (7, .int ((-1 : Int32))), (6, .int ((nI (rmis (S.2.1.2.1 i) (pn S.1))))), (5, .ref (49 + c)), (4, .int ((nI i))), (3, .ref 48), (2, .int ((nI (pn S.1)))), (1, .ref 0), (0, .ref 1041)]) hG [0, 1, 2, 3, 4, 5, 6, 7, 8] (by decide) rfl dL_law_80 ?_
  refine z_iconst (pc := 82) (v := (0 : Int32)) hG (by decide) dL_law_82 ?_
  refine z_istore (pc := 83) (ls' := [(9, .int ((0 : Int32))), (8, .int ((0 : Int32))), (7, .int ((-1 : Int32))), (6, .int ((nI (rmis (S.2.1.2.1 i) (pn S.1))))), (5, .ref (49 + c)), (4, .int ((nI i))), (3, .ref 48), (2, .int ((nI (pn S.1)))), (1, .ref 0), (0, .ref 1041)]) hG [0, 1, 2, 3, 4, 5, 6, 7, 8, 9] (by decide) rfl dL_law_83 ?_
  refine z_iconst (pc := 85) (v := (0 : Int32)) hG (by decide) dL_law_85 ?_
  refine z_istore (pc := 86) (ls' := [(10, .int ((0 : Int32))), (9, .int ((0 : Int32))), (8, .int ((0 : Int32))), (7, .int ((-1 : Int32))), (6, .int ((nI (rmis (S.2.1.2.1 i) (pn S.1))))), (5, .ref (49 + c)), (4, .int ((nI i))), (3, .ref 48), (2, .int ((nI (pn S.1)))), (1, .ref 0), (0, .ref 1041)]) hG [0, 1, 2, 3, 4, 5, 6, 7, 8, 9, 10] (by decide) rfl dL_law_86 ?_
  refine z_sub (ls' := [(10, .int (nI 0)), (9, .int (nI 0)), (8, .int (nI 0)), (7, .int (-1)), (6, .int (nI (rmis (S.2.1.2.1 i) (pn S.1)))), (5, .ref (49 + c)), (4, .int (nI i)), (3, .ref 48), (2, .int (nI (pn S.1))), (1, .ref 0), (0, .ref 1041)]) [0, 1, 2, 3, 4, 5, 6, 7, 8, 9, 10] rfl ?_
  exact kk
theorem rr_end {l : Launch} (hl0 : l.flags = flags0) {S : zSt} {σ : zS} {c i : Nat} : ∀ (A B : Nat) x, lwH l x → zK x 70 19 [(4, .int (nI (i + 1))), (3, .ref 48), (2, .int (nI (pn S.1))), (1, .ref 0), (0, .ref 1041)] [] (zD ++ zEf c (pn S.1)) σ A B → zK x 70 839 [(5, .ref (49 + c)), (4, .int (nI i)), (3, .ref 48), (2, .int (nI (pn S.1))), (1, .ref 0), (0, .ref 1041)] [] (zD ++ zEg c (pn S.1)) σ A B := by
  rintro A B x ⟨⟨hG, hxl⟩, hn0⟩ kk
  subst hxl
  refine z_iinc (pc := 839) (v := (nI (i + 1))) (ls' := [(4, .int ((nI (i + 1)))), (5, .ref (49 + c)), (3, .ref 48), (2, .int ((nI (pn S.1)))), (1, .ref 0), (0, .ref 1041)]) hG 1 rfl [0, 1, 2, 3, 4, 5] (nI_1s) (by decide) rfl dL_law_839 ?_
  refine z_goto (pc := 842) (tgt := 19) hG dL_law_842 rfl ?_
  refine z_sub (ls' := [(4, .int (nI (i + 1))), (3, .ref 48), (2, .int (nI (pn S.1))), (1, .ref 0), (0, .ref 1041)]) [0, 2, 3, 4, 5] rfl ?_
  rw [zEg_e]
  exact z_drop (by rw [hn0]; exact Nat.zero_le _) kk
theorem rr_one {l : Launch} (hl0 : l.flags = flags0) {S : zSt} {σ : zS} {c i : Nat} (hB : lwB S c i) (hV : lwV S c σ) : ∃ σ', lwV S c σ' ∧ σ.2.2.2 ≤ σ'.2.2.2 ∧ ∀ (A B : Nat) x, lwH l x → zK x 70 19 [(4, .int (nI (i + 1))), (3, .ref 48), (2, .int (nI (pn S.1))), (1, .ref 0), (0, .ref 1041)] [] (zD ++ zEf c (pn S.1)) σ' A B → zK x 70 19 [(4, .int (nI i)), (3, .ref 48), (2, .int (nI (pn S.1))), (1, .ref 0), (0, .ref 1041)] [] (zD ++ zEf c (pn S.1)) σ (A + 53609 + (σ'.2.2.2 / 64 - σ.2.2.2 / 64)) (B + 321652 + 2 * (σ'.2.2.2 - σ.2.2.2)) := by
  have hn4 := hB.1.2.1
  have hc256 := hB.c256
  have h16 : 2 ^ pn S.1 ≤ 2 ^ 4 := Nat.pow_le_pow_right (by decide) hn4
  have h16' : 2 ^ 4 = 16 := by decide
  have hq := cnt_le (lsB S.1 (S.2.1.2.1 i)) (2 ^ pn S.1)
  obtain ⟨s1, hc1, hr1, hag, kC⟩ := c_row hl0 (zEf_f c (pn S.1)) (by rw [zEf_n]; omega) (zEf_bl c (pn S.1)) hB.2.2 hn4 hV.1
  rw [zEf_n] at hr1 hag kC
  have hW1 : lwW S c i s1 := ⟨hc1, fun j hj f hf => by rw [(hag.1 (49 + j) (by omega)).1]; exact hV.2 j hj f hf, hr1⟩
  have hcap1 : s1.2.2.2 = σ.2.2.2 := congrArg Prod.snd hag.2
  obtain ⟨s2, hW2, _, hcap2, k2⟩ := st_all hl0 hB (2 ^ pn S.1) 0 s1 (Nat.zero_add _) hW1
  obtain ⟨s3, hW3, _, hcap3, k3⟩ := wd_run hl0 hB hW2 (v8 := (nI (lwN S.1 (S.2.1.2.1 i) (2 ^ pn S.1)).2.1))
  obtain ⟨hl1, hl2, hl3⟩ := lw_least hW2.1.1 (hW2.rok hB)
  refine ⟨s3, ⟨hW3.1, hW3.2.1⟩, by omega, fun A B x hx kk => ?_⟩
  have k839 := rr_end hl0 A B x hx kk
  have k599 := vq_run hl0 hB hW2 _ _ x hx.1 (k3 A B x hx.1 k839)
  have k528 := lo_all hl0 hB hW2 (cnt (lsB S.1 (S.2.1.2.1 i)) (2 ^ pn S.1)) 0 (Nat.zero_add _) _ _ x hx.1 k599
  have k88 := le_beg hl0 hB hW2 (v8 := (nI (lwN S.1 (S.2.1.2.1 i) (2 ^ pn S.1)).2.1)) (fun h => congrArg nI (hl2 h)) _ _ x hx.1 k528
  rw [← hl1, ← hl3] at k88
  have k88s := k2 _ _ x hx.1 k88
  have k76 := rr_st hl0 _ _ x hx.1 k88s
  have k43 := lm_all hl0 hB hW1 (pn S.1) 0 (Nat.zero_add _) x hx.1 k76
  exact z_wk (by omega) (by omega) (rr_beg hl0 hB hV.1 hB.1.2.2.2 kC _ _ x hx.1 k43)
theorem rr_run {l : Launch} (hl0 : l.flags = flags0) {S : zSt} {c : Nat} (hO : menO S) (hcq : c = mxr (pq S.1) (pn S.1) (pn S.1)) : ∀ (q i : Nat) (σ : zS), i + q = S.2.1.1 → lwV S c σ → ∃ σ', lwV S c σ' ∧ σ.2.2.2 ≤ σ'.2.2.2 ∧ ∀ (A B : Nat) x, lwH l x → zK x 70 19 [(4, .int (nI S.2.1.1)), (3, .ref 48), (2, .int (nI (pn S.1))), (1, .ref 0), (0, .ref 1041)] [] (zD ++ zEf c (pn S.1)) σ' A B → zK x 70 19 [(4, .int (nI i)), (3, .ref 48), (2, .int (nI (pn S.1))), (1, .ref 0), (0, .ref 1041)] [] (zD ++ zEf c (pn S.1)) σ (A + 53609 * q + (σ'.2.2.2 / 64 - σ.2.2.2 / 64)) (B + 321652 * q + 2 * (σ'.2.2.2 - σ.2.2.2))
  | 0, i, σ, h, hV => by
    have hi : i = S.2.1.1 := h
    subst hi
    exact ⟨σ, hV, Nat.le_refl _, fun A B x hx kk => z_wk (by omega) (by omega) kk⟩
  | q + 1, i, σ, h, hV => by
    obtain ⟨s1, hV1, hcap1, k1⟩ := rr_one hl0 (σ := σ) (i := i) ⟨hO, hcq, by omega⟩ hV
    obtain ⟨s2, hV2, hcap2, k2⟩ := rr_run hl0 hO hcq q (i + 1) s1 (by omega) hV1
    refine ⟨s2, hV2, by omega, fun A B x hx kk => ?_⟩
    exact z_wk (A' := A + 53609 * q + (s2.2.2.2 / 64 - s1.2.2.2 / 64) + 53609 + (s1.2.2.2 / 64 - σ.2.2.2 / 64)) (B' := B + 321652 * q + 2 * (s2.2.2.2 - s1.2.2.2) + 321652 + 2 * (s1.2.2.2 - σ.2.2.2)) (by omega) (by omega) (k1 _ _ x hx (k2 A B x hx kk))
theorem rr_fin {l : Launch} (hl0 : l.flags = flags0) {S : zSt} {c : Nat} (hO : menO S) (hcq : c = mxr (pq S.1) (pn S.1) (pn S.1)) {σ : zS} (hc : cI S σ) : ∀ x, zG x cL_law 18 RL ret ∧ zl0 x = l → ztg x = (.inl (some (.int 1)), zD ++ zEf c (pn S.1), σ) → zK x 70 19 [(4, .int (nI S.2.1.1)), (3, .ref 48), (2, .int (nI (pn S.1))), (1, .ref 0), (0, .ref 1041)] [] (zD ++ zEf c (pn S.1)) σ 0 0 := by
  rintro x ⟨hG, hxl⟩ hk
  subst hxl
  refine z_iload (pc := 19) hG 0 rfl dL_law_19 ?_
  refine z_aload_n (pc := 21) hG 3 rfl rfl dL_law_21 ?_
  refine z_iconst (pc := 22) (v := (2 : Int32)) hG (by decide) dL_law_22 ?_
  refine z_virtS (pc := 23) (A' := 0) (B' := 0) (st2 := [.int ((nI S.2.1.1)), .int ((nI S.2.1.1))]) (v := some (.int ((nI S.2.1.1)))) hG [.int ((2 : Int32))] [.int ((nI S.2.1.1))] zc_X10 (zEo_0 _) (q_count2 hl0 (zEf_f c (pn S.1)) hc) zy_X10_count ⟨w480, w481⟩ w479 dL_law_23 rfl (Nat.le_of_ble_eq_true rfl) (Nat.le_refl _) (zand rfl rfl) (zand rfl (zand (zoks_of (zEf_48 c (pn S.1)) (by decide)) (zand rfl (zand (zo_0 _) (zand (zoks_hi (by decide)) rfl))))) rfl rfl (Nat.le_of_ble_eq_true rfl) rfl rfl ?_
  refine z_icmp_ge (pc := 26) (tgt := 845) hG dL_law_26 rfl (fun _ => ?_) (fun hbr => False.elim (hbr (Int32.le_refl _)))
  refine z_iconst (pc := 845) (v := (1 : Int32)) hG (by decide) dL_law_845 ?_
  exact z_iret (pc := 846) hG rfl rfl hk dL_law_846
theorem bKn_cap {P : zPl} {g : zS} (h : bKn P g) : g.2.2.2 ≤ 2097152 := by
  rcases h with h | h
  · exact h.2.2
  · exact h.2.2.2.2.1
theorem c_lawK {l : Launch} (hl0 : l.flags = flags0) {N : Nat} {scr : Nat → Int32} : ∃ dl' σ', ∀ x : zXx, zG x cL_law 18 RL (Option.some Jvm.ClassFile.FieldType.boolean) → zl0 x = l → ztg x = (.inl (some (.int 1)), dl', σ') → ¬ zca x 99 = zca x 98 → x.2.2.2.2.2.2.2.2.2.2.2.2.2.2.1 = 0 → zscr (zadx x) N scr → zPx x.2.2.2.2.1 → zK x 70 0 [(0, .ref 1041)] [] zE_0 zS0 466550 7115620 := by
  obtain ⟨σ1, S, hc1, hO, kM⟩ := c_men hl0 (N := N) (scr := scr)
  obtain ⟨c, hcq⟩ : ∃ c, c = mxr (pq S.1) (pn S.1) (pn S.1) := ⟨_, rfl⟩
  have hn4 := hO.2.1
  have hn2 := hO.1
  obtain ⟨σ2, hc2, hf2, kF⟩ := c_forms hl0 hO (c := c) (by rw [prP_mxr (by omega)]; exact hcq.symm) hc1
  obtain ⟨σ3, hV3, hcap3, k3⟩ := rr_run hl0 hO hcq S.2.1.1 0 σ2 (Nat.zero_add _) ⟨hc2, hf2⟩
  have hcap := bKn_cap hV3.1.2.2.2.2.2.2
  have h8 := hO.2.2.2
  refine ⟨zD ++ zEf c (pn S.1), σ3, fun x hG hxl hk hns hn0 hsc hPx => ?_⟩
  have kE := k3 0 0 x ⟨⟨hG, hxl⟩, hn0⟩ (rr_fin hl0 hO hcq hV3.1 x ⟨hG, hxl⟩ hk)
  have kE : zK x 70 19 [(4, .int (nI 0)), (3, .ref 48), (2, .int (nI (pn S.1))), (1, .ref 0), (0, .ref 1041)] [] (zD ++ zEf c (pn S.1)) σ2 461640 6767520 := z_wk (by omega) (by omega) kE
  subst hxl
  show zK x 70 0 [(0, .ref 1041)] [] zE_0 zS0 466550 7115620
  refine z_aload_n (pc := 0) hG 0 rfl rfl dL_law_0 ?_
  refine z_statH (pc := 1) (A' := 466040) (B' := 6793520) (st2 := [.ref 0]) (v := some (.ref 0)) hG hns hsc hPx [.ref 1041] [] kM zy_L_mender w504 w503 dL_law_1 rfl (Nat.le_of_ble_eq_true rfl) (Nat.zero_le _) rfl (zand (zok_hi (by decide)) rfl) rfl rfl (Nat.le_of_ble_eq_true rfl) rfl rfl ?_
  refine z_astore_n (pc := 4) (ls' := [(1, .ref 0), (0, .ref 1041)]) hG [0, 1] rfl (by decide) rfl dL_law_4 ?_
  refine z_aload_n (pc := 5) hG 0 rfl rfl dL_law_5 ?_
  refine z_iconst (pc := 6) (v := (0 : Int32)) hG (by decide) dL_law_6 ?_
  refine z_virtS (pc := 7) (A' := 466040) (B' := 6793520) (st2 := [.int ((nI (pn S.1)))]) (v := some (.int ((nI (pn S.1))))) hG [.int ((0 : Int32))] [] zc_X10 (zEo_0 _) (q_count0 hl0 (by decide) hc1) zy_X10_count ⟨w480, w481⟩ w479 dL_law_7 rfl (Nat.le_of_ble_eq_true rfl) (Nat.le_refl _) rfl (zand (zo_0 _) (zand (zoks_hi (by decide)) rfl)) rfl rfl (Nat.le_of_ble_eq_true rfl) rfl rfl ?_
  refine z_istore_n (pc := 10) (ls' := [(2, .int ((nI (pn S.1)))), (1, .ref 0), (0, .ref 1041)]) hG [0, 1, 2] rfl (by decide) rfl dL_law_10 ?_
  refine z_aload_n (pc := 11) hG 1 rfl rfl dL_law_11 ?_
  refine z_statS (pc := 12) (A' := 461640) (B' := 6767520) (st2 := [.ref 48]) (v := some (.ref 48)) hG [.ref 0] [] (kF) zy_L_forms w1250 w1249 dL_law_12 rfl (Nat.le_of_ble_eq_true rfl) (by rw [zEf_n]; show 48 ≤ 49 + c; omega) rfl (zand rfl (zand (zo_0 _) (zand (zoks_hi (by decide)) rfl))) rfl rfl (Nat.le_of_ble_eq_true rfl) rfl rfl ?_
  refine z_astore_n (pc := 15) (ls' := [(3, .ref 48), (2, .int ((nI (pn S.1)))), (1, .ref 0), (0, .ref 1041)]) hG [0, 1, 2, 3] rfl (by decide) rfl dL_law_15 ?_
  refine z_iconst (pc := 16) (v := (0 : Int32)) hG (by decide) dL_law_16 ?_
  refine z_istore (pc := 17) (ls' := [(4, .int ((0 : Int32))), (3, .ref 48), (2, .int ((nI (pn S.1)))), (1, .ref 0), (0, .ref 1041)]) hG [0, 1, 2, 3, 4] (by decide) rfl dL_law_17 ?_
  refine z_sub (ls' := [(4, .int (nI 0)), (3, .ref 48), (2, .int (nI (pn S.1))), (1, .ref 0), (0, .ref 1041)]) [0, 1, 2, 3, 4] rfl ?_
  exact kE
