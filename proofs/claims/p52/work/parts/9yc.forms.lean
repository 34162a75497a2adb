theorem dL_forms_0 : decode cL_forms 0 = .ok (.aload_n 0, 1) := by decide +kernel
theorem dL_forms_1 : decode cL_forms 1 = .ok (.iconst 0, 1) := by decide +kernel
theorem dL_forms_2 : decode cL_forms 2 = .ok (.invokevirtual 103, 3) := by decide +kernel
theorem dL_forms_5 : decode cL_forms 5 = .ok (.istore_n 1, 1) := by decide +kernel
theorem dL_forms_6 : decode cL_forms 6 = .ok (.aload_n 0, 1) := by decide +kernel
theorem dL_forms_7 : decode cL_forms 7 = .ok (.bipush 7, 2) := by decide +kernel
theorem dL_forms_9 : decode cL_forms 9 = .ok (.invokevirtual 103, 3) := by decide +kernel
theorem dL_forms_12 : decode cL_forms 12 = .ok (.iload_n 1, 1) := by decide +kernel
theorem dL_forms_13 : decode cL_forms 13 = .ok (.multianewarray 106 2, 4) := by decide +kernel
theorem dL_forms_17 : decode cL_forms 17 = .ok (.astore_n 2, 1) := by decide +kernel
theorem dL_forms_18 : decode cL_forms 18 = .ok (.iconst 0, 1) := by decide +kernel
theorem dL_forms_19 : decode cL_forms 19 = .ok (.istore_n 3, 1) := by decide +kernel
theorem dL_forms_20 : decode cL_forms 20 = .ok (.iload_n 3, 1) := by decide +kernel
theorem dL_forms_21 : decode cL_forms 21 = .ok (.aload_n 2, 1) := by decide +kernel
theorem dL_forms_22 : decode cL_forms 22 = .ok (.arraylength, 1) := by decide +kernel
theorem dL_forms_23 : decode cL_forms 23 = .ok (.if_icmp .ge 56, 3) := by decide +kernel
theorem dL_forms_26 : decode cL_forms 26 = .ok (.iload_n 3, 1) := by decide +kernel
theorem dL_forms_27 : decode cL_forms 27 = .ok (.istore 4, 2) := by decide +kernel
theorem dL_forms_29 : decode cL_forms 29 = .ok (.iload_n 1, 1) := by decide +kernel
theorem dL_forms_30 : decode cL_forms 30 = .ok (.iconst 1, 1) := by decide +kernel
theorem dL_forms_31 : decode cL_forms 31 = .ok (.isub, 1) := by decide +kernel
theorem dL_forms_32 : decode cL_forms 32 = .ok (.istore 5, 2) := by decide +kernel
theorem dL_forms_34 : decode cL_forms 34 = .ok (.iload 5, 2) := by decide +kernel
theorem dL_forms_36 : decode cL_forms 36 = .ok (.ifCond .lt 37, 3) := by decide +kernel
theorem dL_forms_39 : decode cL_forms 39 = .ok (.aload_n 2, 1) := by decide +kernel
theorem dL_forms_40 : decode cL_forms 40 = .ok (.iload_n 3, 1) := by decide +kernel
theorem dL_forms_41 : decode cL_forms 41 = .ok (.aaload, 1) := by decide +kernel
theorem dL_forms_42 : decode cL_forms 42 = .ok (.iload 5, 2) := by decide +kernel
theorem dL_forms_44 : decode cL_forms 44 = .ok (.iload 4, 2) := by decide +kernel
theorem dL_forms_46 : decode cL_forms 46 = .ok (.aload_n 0, 1) := by decide +kernel
theorem dL_forms_47 : decode cL_forms 47 = .ok (.iload 5, 2) := by decide +kernel
theorem dL_forms_49 : decode cL_forms 49 = .ok (.iconst 0, 1) := by decide +kernel
theorem dL_forms_50 : decode cL_forms 50 = .ok (.invokevirtual 108, 3) := by decide +kernel
theorem dL_forms_53 : decode cL_forms 53 = .ok (.irem, 1) := by decide +kernel
theorem dL_forms_54 : decode cL_forms 54 = .ok (.iastore, 1) := by decide +kernel
theorem dL_forms_55 : decode cL_forms 55 = .ok (.iload 4, 2) := by decide +kernel
theorem dL_forms_57 : decode cL_forms 57 = .ok (.aload_n 0, 1) := by decide +kernel
theorem dL_forms_58 : decode cL_forms 58 = .ok (.iload 5, 2) := by decide +kernel
theorem dL_forms_60 : decode cL_forms 60 = .ok (.iconst 0, 1) := by decide +kernel
theorem dL_forms_61 : decode cL_forms 61 = .ok (.invokevirtual 108, 3) := by decide +kernel
theorem dL_forms_64 : decode cL_forms 64 = .ok (.idiv, 1) := by decide +kernel
theorem dL_forms_65 : decode cL_forms 65 = .ok (.istore 4, 2) := by decide +kernel
theorem dL_forms_67 : decode cL_forms 67 = .ok (.iinc 5 (-1), 3) := by decide +kernel
theorem dL_forms_70 : decode cL_forms 70 = .ok (.goto (-36), 3) := by decide +kernel
theorem dL_forms_73 : decode cL_forms 73 = .ok (.iinc 3 1, 3) := by decide +kernel
theorem dL_forms_76 : decode cL_forms 76 = .ok (.goto (-56), 3) := by decide +kernel
theorem dL_forms_79 : decode cL_forms 79 = .ok (.aload_n 2, 1) := by decide +kernel
theorem dL_forms_80 : decode cL_forms 80 = .ok (.areturn, 1) := by decide +kernel
/-! ===== forms by contract ===== -/
theorem nJ_dec {a : Nat} : nI a + Int32.ofInt (-1) = nJ a := by
  rw [show Int32.ofInt (-1) = (-1 : Int32) from by decide]
  unfold nJ
  rw [Int32.sub_eq_add_neg]
theorem nJ_s1 {a : Nat} : nJ (a + 1) = nI a := by
  unfold nJ
  rw [show (1 : Int32) = nI 1 from rfl]
  exact nI_sub (by omega)
theorem foN_mul {g : Nat → Nat} {a : Nat} : ∀ n, foN (fun f s => s * g f) n a = a * foN (fun f s => s * g f) n 1
  | 0 => (Nat.mul_one a).symm
  | n + 1 => by
    show foN (fun f s => s * g f) n a * g n = a * (foN (fun f s => s * g f) n 1 * g n)
    rw [foN_mul n, Nat.mul_assoc]
theorem mxr_pr {g : Nat → Nat} {n : Nat} : ∀ r, r ≤ n → foN (fun f s => s * g f) (n - r) 1 * mxr g n r = foN (fun f s => s * g f) n 1
  | 0, _ => Nat.mul_one _
  | r + 1, h => by
    refine Eq.trans ?_ (mxr_pr (g := g) (n := n) r (by omega))
    show foN (fun f s => s * g f) (n - (r + 1)) 1 * (g (n - (r + 1)) * mxr g n r) = _
    rw [show n - r = (n - (r + 1)) + 1 by omega, ← Nat.mul_assoc]
    rfl
theorem prP_mxr {P : zPl} (hp : pn P ≠ 0) : prP P (pn P) = mxr (pq P) (pn P) (pn P) := by
  unfold prP
  rw [if_neg hp, ← mxr_pr (g := pq P) (pn P) (Nat.le_refl _), Nat.sub_self]
  exact Nat.one_mul _
theorem mxr_4 {g : Nat → Nat} {n : Nat} (h : ∀ f, f < n → g f ≤ 4) : ∀ r, r ≤ n → mxr g n r ≤ 4 ^ r
  | 0, _ => Nat.le_refl _
  | r + 1, hr => by
    show g (n - (r + 1)) * mxr g n r ≤ 4 ^ (r + 1)
    rw [Nat.pow_succ, Nat.mul_comm]
    exact Nat.mul_le_mul (mxr_4 h r (by omega)) (h _ (by omega))
theorem mxr_256 {g : Nat → Nat} {n : Nat} (hn : n ≤ 4) (h : ∀ f, f < n → g f ≤ 4) : mxr g n n ≤ 256 := by
  have h1 := mxr_4 h n (Nat.le_refl _)
  have h2 : 4 ^ n ≤ 4 ^ 4 := Nat.pow_le_pow_right (by decide) hn
  have h3 : 4 ^ 4 = 256 := by decide
  omega
theorem zof_48 (c n : Nat) : zoks (zD ++ zEf c n).length (.ref 48) = true := zoks_of (zEf_48 c n) (by decide)
theorem zof_r {c n k : Nat} (hk : k < c) : zoks (zD ++ zEf c n).length (.ref (49 + k)) = true := zoks_of (zEf_r hk) (by omega)
/-- the forms so far: those below k all, of the form k the last r fields -/
def fmS (S : zSt) (c k r : Nat) (σ : zS) : Prop := cI S σ ∧ (∀ j, j < k → ∀ f, f < pn S.1 → σ.1 (49 + j) f = nI (mxv (pq S.1) (pn S.1) j f)) ∧ (r ≠ 0 → ∀ f, f < pn S.1 → pn S.1 - r ≤ f → σ.1 (49 + k) f = nI (mxv (pq S.1) (pn S.1) k f))
theorem fm_one {l : Launch} (hl0 : l.flags = flags0) {S : zSt} {σ : zS} {c k r : Nat} (hO : menO S) (hk : k < c) (hc : c ≤ 256) (hr : r < pn S.1) (hs : fmS S c k r σ) {A B : Nat} : ∃ σ', fmS S c k (r + 1) σ' ∧ ∀ x, zG x cL_forms 6 RL (Option.some (Jvm.ClassFile.FieldType.array (Jvm.ClassFile.FieldType.array Jvm.ClassFile.FieldType.int))) ∧ zl0 x = l → zK x 10 34 [(5, .int (nJ (pn S.1 - (r + 1)))), (4, .int (nI (k / mxr (pq S.1) (pn S.1) (r + 1)))), (3, .int (nI k)), (2, .ref 48), (1, .int (nI (pn S.1))), (0, .ref 0)] [] (zD ++ zEf c (pn S.1)) σ' A B → zK x 10 34 [(5, .int (nI (pn S.1 - (r + 1)))), (4, .int (nI (k / mxr (pq S.1) (pn S.1) r))), (3, .int (nI k)), (2, .ref 48), (1, .int (nI (pn S.1))), (0, .ref 0)] [] (zD ++ zEf c (pn S.1)) σ (A + 4) (B + 24) := by
  have hn4 := hO.2.1
  have hf : (pn S.1 - (r + 1)) < pn S.1 := by omega
  have hq := hO.2.2.1 _ hf
  have hq1 : 0 < pq S.1 (pn S.1 - (r + 1)) := by omega
  have hq0 : ¬ nI (pq S.1 (pn S.1 - (r + 1))) = 0 := nI_neq (a := pq S.1 (pn S.1 - (r + 1))) (b := 0) (by omega) (by decide) (by omega)
  have hkr : k / mxr (pq S.1) (pn S.1) r < 2 ^ 31 := Nat.lt_of_le_of_lt (Nat.div_le_self _ _) (by omega)
  have hdiv : nI (k / mxr (pq S.1) (pn S.1) r) / nI (pq S.1 (pn S.1 - (r + 1))) = nI (k / mxr (pq S.1) (pn S.1) (r + 1)) := by
    rw [pk_div hkr hq1 (by omega), Nat.div_div_eq_div_mul]
    show _ = nI (k / (pq S.1 (pn S.1 - (r + 1)) * mxr (pq S.1) (pn S.1) r))
    rw [Nat.mul_comm]
  have hs2 : cI S (zi σ (49 + k) (pn S.1 - (r + 1)) (nI (k / mxr (pq S.1) (pn S.1) r % pq S.1 (pn S.1 - (r + 1))))) := cI_hi hs.1 (fun c hc => ⟨zi_o (by omega), rfl⟩) rfl
  refine ⟨zi σ (49 + k) (pn S.1 - (r + 1)) (nI (k / mxr (pq S.1) (pn S.1) r % pq S.1 (pn S.1 - (r + 1)))), ⟨hs2, fun j hj e he => ?_, fun _ e he her => ?_⟩, ?_⟩
  · rw [zi_o (show 49 + j ≠ 49 + k by omega)]
    exact hs.2.1 j hj e he
  · rw [zupd]
    by_cases h : e = (pn S.1 - (r + 1))
    · rw [h, pk_us]
      show _ = nI (k / mxr (pq S.1) (pn S.1) (pn S.1 - 1 - (pn S.1 - (r + 1))) % pq S.1 (pn S.1 - (r + 1)))
      rw [show pn S.1 - 1 - (pn S.1 - (r + 1)) = r by omega]
    · rw [pk_un h]
      exact hs.2.2 (by omega) e he (by omega)
  rintro x ⟨hG, hxl⟩ kk
  subst hxl
  refine z_iload (pc := 34) hG 0 rfl dL_forms_34 ?_
  refine z_if_lt (pc := 36) (tgt := 73) hG dL_forms_36 rfl (fun hbr => False.elim ((fun h => nI_nn (by omega) h) hbr)) (fun _ => ?_)
  refine z_aload_n (pc := 39) hG 3 rfl rfl dL_forms_39 ?_
  refine z_iload_n (pc := 40) hG 2 rfl rfl dL_forms_40 ?_
  refine z_aald (pc := 41) hG (zEf_48 _ _) (vp_in_nI hk (by omega)) dL_forms_41 ?_
  rw [nI_clamp (show k < 2 ^ 31 by omega)]
  refine z_iload (pc := 42) hG 0 rfl dL_forms_42 ?_
  refine z_iload (pc := 44) hG 1 rfl dL_forms_44 ?_
  refine z_aload_n (pc := 46) hG 5 rfl rfl dL_forms_46 ?_
  refine z_iload (pc := 47) hG 0 rfl dL_forms_47 ?_
  refine z_iconst (pc := 49) (v := (0 : Int32)) hG (by decide) dL_forms_49 ?_
  refine z_virtS (pc := 50) (A' := A + 2) (B' := B + 12) (st2 := [.int ((nI (pq S.1 (pn S.1 - (r + 1))))), .int ((nI (k / mxr (pq S.1) (pn S.1) r))), .int ((nI (pn S.1 - (r + 1)))), .ref (49 + k)]) (v := some (.int ((nI (pq S.1 (pn S.1 - (r + 1))))))) hG [.int ((nI (pn S.1 - (r + 1)))), .int ((0 : Int32))] [.int ((nI (k / mxr (pq S.1) (pn S.1) r))), .int ((nI (pn S.1 - (r + 1)))), .ref (49 + k)] zc_X10 (zEo_0 _) (q_field0 hl0 (zEf_f _ _) hs.1 hf) zy_X10_field ⟨w33, w34⟩ w32 dL_forms_50 rfl (Nat.le_of_ble_eq_true rfl) (Nat.le_refl _) (zand rfl (zand rfl (zand (zof_r hk) rfl))) (zand rfl (zand rfl (zand rfl (zand (zof_48 _ _) (zand rfl (zand (zo_0 _) rfl)))))) rfl rfl (Nat.le_of_ble_eq_true rfl) rfl rfl ?_
  refine z_irem (pc := 53) hG hq0 dL_forms_53 ?_
  rw [show ((nI (k / mxr (pq S.1) (pn S.1) r)) - (nI (k / mxr (pq S.1) (pn S.1) r)) / (nI (pq S.1 (pn S.1 - (r + 1)))) * (nI (pq S.1 (pn S.1 - (r + 1))))) = (nI (k / mxr (pq S.1) (pn S.1) r % pq S.1 (pn S.1 - (r + 1)))) from pk_rem hkr hq1 (by omega)]
  refine z_iast (pc := 54) hG (zEf_r hk) (vp_in_nI hf (by omega)) dL_forms_54 ?_
  rw [nI_clamp (show (pn S.1 - (r + 1)) < 2 ^ 31 by omega)]
  refine z_iload (pc := 55) hG 1 rfl dL_forms_55 ?_
  refine z_aload_n (pc := 57) hG 5 rfl rfl dL_forms_57 ?_
  refine z_iload (pc := 58) hG 0 rfl dL_forms_58 ?_
  refine z_iconst (pc := 60) (v := (0 : Int32)) hG (by decide) dL_forms_60 ?_
  refine z_virtS (pc := 61) (A' := A) (B' := B) (st2 := [.int ((nI (pq S.1 (pn S.1 - (r + 1))))), .int ((nI (k / mxr (pq S.1) (pn S.1) r)))]) (v := some (.int ((nI (pq S.1 (pn S.1 - (r + 1))))))) hG [.int ((nI (pn S.1 - (r + 1)))), .int ((0 : Int32))] [.int ((nI (k / mxr (pq S.1) (pn S.1) r)))] zc_X10 (zEo_0 _) (q_field0 hl0 (zEf_f _ _) hs2 hf) zy_X10_field ⟨w33, w34⟩ w32 dL_forms_61 rfl (Nat.le_of_ble_eq_true rfl) (Nat.le_refl _) (zand rfl rfl) (zand rfl (zand rfl (zand rfl (zand (zof_48 _ _) (zand rfl (zand (zo_0 _) rfl)))))) rfl rfl (Nat.le_of_ble_eq_true rfl) rfl rfl ?_
  refine z_idiv (pc := 64) hG hq0 dL_forms_64 ?_
  rw [show ((nI (k / mxr (pq S.1) (pn S.1) r)) / (nI (pq S.1 (pn S.1 - (r + 1))))) = (nI (k / mxr (pq S.1) (pn S.1) (r + 1))) from hdiv]
  refine z_istore (pc := 65) (ls' := [(4, .int ((nI (k / mxr (pq S.1) (pn S.1) (r + 1))))), (5, .int ((nI (pn S.1 - (r + 1))))), (3, .int ((nI k))), (2, .ref 48), (1, .int ((nI (pn S.1)))), (0, .ref 0)]) hG [0, 1, 2, 3, 4, 5] (by decide) rfl dL_forms_65 ?_
  refine z_iinc (pc := 67) (v := (nJ (pn S.1 - (r + 1)))) (ls' := [(5, .int ((nJ (pn S.1 - (r + 1))))), (4, .int ((nI (k / mxr (pq S.1) (pn S.1) (r + 1))))), (3, .int ((nI k))), (2, .ref 48), (1, .int ((nI (pn S.1)))), (0, .ref 0)]) hG 1 rfl [0, 1, 2, 3, 4, 5] (nJ_dec) (by decide) rfl dL_forms_67 ?_
  refine z_goto (pc := 70) (tgt := 34) hG dL_forms_70 rfl ?_
  refine z_sub (ls' := [(5, .int (nJ (pn S.1 - (r + 1)))), (4, .int (nI (k / mxr (pq S.1) (pn S.1) (r + 1)))), (3, .int (nI k)), (2, .ref 48), (1, .int (nI (pn S.1))), (0, .ref 0)]) [0, 1, 2, 3, 4, 5] rfl ?_
  exact kk
theorem fm_form {l : Launch} (hl0 : l.flags = flags0) {S : zSt} {c k : Nat} (hO : menO S) (hk : k < c) (hc : c ≤ 256) : ∀ (q r : Nat) (σ : zS), r + q = pn S.1 → fmS S c k r σ → ∀ (A B : Nat), ∃ σ', fmS S c k (pn S.1) σ' ∧ ∀ x, zG x cL_forms 6 RL (Option.some (Jvm.ClassFile.FieldType.array (Jvm.ClassFile.FieldType.array Jvm.ClassFile.FieldType.int))) ∧ zl0 x = l → zK x 10 34 [(5, .int (nJ 0)), (4, .int (nI (k / mxr (pq S.1) (pn S.1) (pn S.1)))), (3, .int (nI k)), (2, .ref 48), (1, .int (nI (pn S.1))), (0, .ref 0)] [] (zD ++ zEf c (pn S.1)) σ' A B → zK x 10 34 [(5, .int (nJ (pn S.1 - r))), (4, .int (nI (k / mxr (pq S.1) (pn S.1) r))), (3, .int (nI k)), (2, .ref 48), (1, .int (nI (pn S.1))), (0, .ref 0)] [] (zD ++ zEf c (pn S.1)) σ (A + 4 * q) (B + 24 * q)
  | 0, r, σ, h, hs, A, B => by
    obtain rfl : r = pn S.1 := h
    exact ⟨σ, hs, fun x hx kk => by rw [Nat.sub_self]; exact kk⟩
  | q + 1, r, σ, h, hs, A, B => by
    obtain ⟨σ1, h1, k1⟩ := fm_one hl0 hO hk hc (show r < pn S.1 by omega) hs (A := A + 4 * q) (B := B + 24 * q)
    obtain ⟨σ2, h2, k2⟩ := fm_form hl0 hO hk hc q (r + 1) σ1 (by omega) h1 A B
    refine ⟨σ2, h2, fun x hx kk => ?_⟩
    rw [show pn S.1 - r = (pn S.1 - (r + 1)) + 1 by omega, nJ_s1]
    exact z_wk (by omega) (by omega) (k1 x hx (k2 x hx kk))
theorem fm_next {l : Launch} (hl0 : l.flags = flags0) {S : zSt} {σ : zS} {c k : Nat} (hO : menO S) (hk : k < c) (hc : c ≤ 256) (hs : fmS S c k 0 σ) {A0 B0 : Nat} : ∃ σ', fmS S c (k + 1) 0 σ' ∧ ∀ x, zG x cL_forms 6 RL (Option.some (Jvm.ClassFile.FieldType.array (Jvm.ClassFile.FieldType.array Jvm.ClassFile.FieldType.int))) ∧ zl0 x = l → zK x 10 20 [(3, .int (nI (k + 1))), (2, .ref 48), (1, .int (nI (pn S.1))), (0, .ref 0)] [] (zD ++ zEf c (pn S.1)) σ' A0 B0 → zK x 10 20 [(3, .int (nI k)), (2, .ref 48), (1, .int (nI (pn S.1))), (0, .ref 0)] [] (zD ++ zEf c (pn S.1)) σ (A0 + 16) (B0 + 96) := by
  have hn4 := hO.2.1
  have hn2 := hO.1
  obtain ⟨σ1, h1, k1⟩ := fm_form hl0 hO hk hc (pn S.1) 0 σ (Nat.zero_add _) hs A0 B0
  refine ⟨σ1, ⟨h1.1, fun j hj f hf => ?_, fun z => absurd rfl z⟩, ?_⟩
  · by_cases h : j = k
    · rw [h]
      exact h1.2.2 (by omega) f hf (by omega)
    · exact h1.2.1 j (by omega) f hf
  rintro x hx kk
  obtain ⟨hG, hxl⟩ := id hx
  subst hxl
  refine z_iload_n (pc := 20) hG 0 rfl rfl dL_forms_20 ?_
  refine z_aload_n (pc := 21) hG 1 rfl rfl dL_forms_21 ?_
  refine z_alenQ (pc := 22) hG (zEf_48 _ _) dL_forms_22 ?_
  refine z_icmp_ge (pc := 23) (tgt := 79) hG dL_forms_23 rfl (fun hbr => False.elim ((fun h => nI_nle2 hk (by omega) h) hbr)) (fun _ => ?_)
  refine z_iload_n (pc := 26) hG 0 rfl rfl dL_forms_26 ?_
  refine z_istore (pc := 27) (ls' := [(4, .int ((nI k))), (3, .int ((nI k))), (2, .ref 48), (1, .int ((nI (pn S.1)))), (0, .ref 0)]) hG [0, 1, 2, 3, 4] (by decide) rfl dL_forms_27 ?_
  refine z_iload_n (pc := 29) hG 3 rfl rfl dL_forms_29 ?_
  refine z_iconst (pc := 30) (v := (1 : Int32)) hG (by decide) dL_forms_30 ?_
  refine z_isub (pc := 31) hG dL_forms_31 ?_
  rw [show ((nI (pn S.1)) - (1 : Int32)) = (nJ (pn S.1)) from rfl]
  refine z_istore (pc := 32) (ls' := [(5, .int ((nJ (pn S.1)))), (4, .int ((nI k))), (3, .int ((nI k))), (2, .ref 48), (1, .int ((nI (pn S.1)))), (0, .ref 0)]) hG [0, 1, 2, 3, 4, 5] (by decide) rfl dL_forms_32 ?_
  refine z_sub (ls' := [(5, .int (nJ (pn S.1))), (4, .int (nI (k))), (3, .int (nI k)), (2, .ref 48), (1, .int (nI (pn S.1))), (0, .ref 0)]) [0, 1, 2, 3, 4, 5] rfl ?_
  refine z_wk (A' := A0 + 4 * pn S.1) (B' := B0 + 24 * pn S.1) (by omega) (by omega) ?_
  have k2 := k1 x hx
  rw [show k / mxr (pq S.1) (pn S.1) 0 = k from Nat.div_one k] at k2
  refine k2 ?_
  refine z_iload (pc := 34) hG 0 rfl dL_forms_34 ?_
  refine z_if_lt (pc := 36) (tgt := 73) hG dL_forms_36 rfl (fun _ => ?_) (fun hbr => False.elim (hbr (by decide)))
  refine z_iinc (pc := 73) (v := (nI (k + 1))) (ls' := [(3, .int ((nI (k + 1)))), (5, .int ((nJ 0))), (4, .int ((nI (k / mxr (pq S.1) (pn S.1) (pn S.1))))), (2, .ref 48), (1, .int ((nI (pn S.1)))), (0, .ref 0)]) hG 2 rfl [0, 1, 2, 3, 4, 5] (nI_1s) (by decide) rfl dL_forms_73 ?_
  refine z_goto (pc := 76) (tgt := 20) hG dL_forms_76 rfl ?_
  refine z_sub (ls' := [(3, .int (nI (k + 1))), (2, .ref 48), (1, .int (nI (pn S.1))), (0, .ref 0)]) [0, 3, 4, 5] rfl ?_
  exact kk
theorem fm_all {l : Launch} (hl0 : l.flags = flags0) {S : zSt} {c : Nat} (hO : menO S) (hc : c ≤ 256) : ∀ (q k : Nat) (σ : zS), k + q = c → fmS S c k 0 σ → ∀ (A B : Nat), ∃ σ', fmS S c c 0 σ' ∧ ∀ x, zG x cL_forms 6 RL (Option.some (Jvm.ClassFile.FieldType.array (Jvm.ClassFile.FieldType.array Jvm.ClassFile.FieldType.int))) ∧ zl0 x = l → zK x 10 20 [(3, .int (nI c)), (2, .ref 48), (1, .int (nI (pn S.1))), (0, .ref 0)] [] (zD ++ zEf c (pn S.1)) σ' A B → zK x 10 20 [(3, .int (nI k)), (2, .ref 48), (1, .int (nI (pn S.1))), (0, .ref 0)] [] (zD ++ zEf c (pn S.1)) σ (A + 16 * q) (B + 96 * q)
  | 0, k, σ, h, hs, A, B => by
    obtain rfl : k = c := h
    exact ⟨σ, hs, fun x hx kk => kk⟩
  | q + 1, k, σ, h, hs, A, B => by
    obtain ⟨σ1, h1, k1⟩ := fm_next hl0 hO (show k < c by omega) hc hs (A0 := A + 16 * q) (B0 := B + 96 * q)
    obtain ⟨σ2, h2, k2⟩ := fm_all hl0 hO hc q (k + 1) σ1 (by omega) h1 A B
    exact ⟨σ2, h2, fun x hx kk => z_wk (by omega) (by omega) (k1 x hx (k2 x hx kk))⟩
theorem c_forms {l : Launch} (hl0 : l.flags = flags0) {S : zSt} {σ : zS} {c : Nat} (hO : menO S) (hcp : prP S.1 (pn S.1) = c) (hc : cI S σ) : ∃ σ', cI S σ' ∧ (∀ j, j < c → ∀ f, f < pn S.1 → σ'.1 (49 + j) f = nI (mxv (pq S.1) (pn S.1) j f)) ∧ zC l yL_forms cL_forms 6 (Option.some (Jvm.ClassFile.FieldType.array (Jvm.ClassFile.FieldType.array Jvm.ClassFile.FieldType.int))) 10 4400 26000 [.ref 0] (zD ++ zEt) σ (.inl (some (.ref 48)), zD ++ zEf c (pn S.1), σ') := by
  have hn4 := hO.2.1
  have hn2 := hO.1
  have hc256 : c ≤ 256 := by
    rw [← hcp, prP_mxr (by omega)]
    exact mxr_256 hn4 (fun f hf => (hO.2.2.1 f hf).2)
  have hs0 : fmS S c 0 0 (zrws σ 49 c) := ⟨cI_hi hc (fun q hq => ⟨if_neg (by omega), rfl⟩) rfl, fun j hj => absurd hj (Nat.not_lt_zero j), fun z => absurd rfl z⟩
  obtain ⟨σ1, h1, k1⟩ := fm_all hl0 hO hc256 c 0 (zrws σ 49 c) (Nat.zero_add _) hs0 0 0
  refine ⟨σ1, h1.1, h1.2.1, ?_⟩
  refine zC_of hl0 rfl (Nat.le_of_ble_eq_true rfl) (fun x hG hxl hk _ => ?_)
  subst hxl
  show zK x 10 0 [(0, .ref 0)] [] (zD ++ zEt) σ 4400 26000
  refine z_aload_n (pc := 0) hG 0 rfl rfl dL_forms_0 ?_
  refine z_iconst (pc := 1) (v := (0 : Int32)) hG (by decide) dL_forms_1 ?_
  refine z_virtS (pc := 2) (A' := 4400) (B' := 26000) (st2 := [.int ((nI (pn S.1)))]) (v := some (.int ((nI (pn S.1))))) hG [.int ((0 : Int32))] [] zc_X10 (zEo_0 _) (q_count0 hl0 zEt_f hc) zy_X10_count ⟨w480, w481⟩ w479 dL_forms_2 rfl (Nat.le_of_ble_eq_true rfl) (Nat.le_refl _) rfl (zand (zo_0 _) rfl) rfl rfl (Nat.le_of_ble_eq_true rfl) rfl rfl ?_
  refine z_istore_n (pc := 5) (ls' := [(1, .int ((nI (pn S.1)))), (0, .ref 0)]) hG [0, 1] rfl (by decide) rfl dL_forms_5 ?_
  refine z_aload_n (pc := 6) hG 1 rfl rfl dL_forms_6 ?_
  refine z_bipush (pc := 7) (v := (7 : Int32)) hG (by decide) dL_forms_7 ?_
  refine z_virtS (pc := 9) (A' := 4400) (B' := 26000) (st2 := [.int ((nI (prP S.1 (pn S.1))))]) (v := some (.int ((nI (prP S.1 (pn S.1)))))) hG [.int ((7 : Int32))] [] zc_X10 (zEo_0 _) (q_count7 hl0 zEt_f hc) zy_X10_count ⟨w480, w481⟩ w479 dL_forms_9 rfl (Nat.le_of_ble_eq_true rfl) (Nat.le_refl _) rfl (zand rfl (zand (zo_0 _) rfl)) rfl rfl (Nat.le_of_ble_eq_true rfl) rfl rfl ?_
  rw [show (nI (prP S.1 (pn S.1))) = (nI c) from congrArg nI hcp]
  refine z_iload_n (pc := 12) hG 0 rfl rfl dL_forms_12 ?_
  refine z_mna (c := c) (n := pn S.1) (i := 48) (A' := 4400 - (1 + c)) (B' := 26000 - (c + c * pn S.1)) (pc := 13) hG w1252 rfl (by decide +kernel) (by decide) (by omega) (by omega) (by omega) rfl rfl (by omega) (by have := Nat.mul_le_mul hc256 hn4; omega) dL_forms_13 ?_
  rw [show zD ++ zEt ++ ((.inr (c + 7, 49) : zDs) :: List.replicate c (.inr (0, pn S.1))) = zD ++ zEf c (pn S.1) from List.append_assoc _ _ _]
  refine z_astore_n (pc := 17) (ls' := [(2, .ref 48), (1, .int ((nI (pn S.1)))), (0, .ref 0)]) hG [0, 1, 2] rfl (by decide) rfl dL_forms_17 ?_
  refine z_iconst (pc := 18) (v := (0 : Int32)) hG (by decide) dL_forms_18 ?_
  refine z_istore_n (pc := 19) (ls' := [(3, .int ((0 : Int32))), (2, .ref 48), (1, .int ((nI (pn S.1)))), (0, .ref 0)]) hG [0, 1, 2, 3] rfl (by decide) rfl dL_forms_19 ?_
  refine z_sub (ls' := [(3, .int (nI 0)), (2, .ref 48), (1, .int (nI (pn S.1))), (0, .ref 0)]) [0, 1, 2, 3] rfl ?_
  refine z_wk (A' := 0 + 16 * c) (B' := 0 + 96 * c) (by omega) (by have := Nat.mul_le_mul hc256 hn4; omega) ?_
  refine k1 _ ⟨hG, rfl⟩ ?_
  refine z_iload_n (pc := 20) hG 0 rfl rfl dL_forms_20 ?_
  refine z_aload_n (pc := 21) hG 1 rfl rfl dL_forms_21 ?_
  refine z_alenQ (pc := 22) hG (zEf_48 _ _) dL_forms_22 ?_
  refine z_icmp_ge (pc := 23) (tgt := 79) hG dL_forms_23 rfl (fun _ => ?_) (fun hbr => False.elim (hbr (Int32.le_refl _)))
  refine z_aload_n (pc := 79) hG 1 rfl rfl dL_forms_79 ?_
  exact z_aret (pc := 80) hG rfl hk dL_forms_80
