/-! ===== rows of rows; digits; row ===== -/
def zokl (n : Nat) : Value → Bool
  | .ref j => decide (j < n) || decide (900 ≤ j)
  | _ => true
/-- c new rows from the cell b on -/
def zrws (σ : zS) (b c : Nat) : zS := (fun a => if b ≤ a ∧ a < b + c then fun _ => 0 else σ.1 a, σ.2)
section ZMn
variable {x : zXx} {cc : ByteArray} {nL : Nat} {own : String} {ret : Option FieldType} {F pc : Nat} {ls : List (Nat × Value)} {st : List Value} {dl : List zDs} {σ : zS} {A B A' B' : Nat}
theorem z_mna {c n i index : Nat} (hG : zG x cc nL own ret) (hlink : Cond.classLink own index "[[I" ∈ zT) (hi : dl.length = i) (hbl : dl.all (zbl i) = true) (h26 : 26 ≤ i) (hc : c ≤ 600) (hn : n ≤ 100) (hi9 : i + 1 + c < 900) (hst : st.all (zokl i) = true) (hls : ls.all (fun q => zokl i q.2) = true) (hA : A = A' + (1 + c)) (hB : B = B' + (c + c * n)) (hd : decode cc pc = .ok (.multianewarray index 2, 4))
    (kk : zK x F (pc + 4) ls (.ref i :: st) (dl ++ (.inr (c + 7, i + 1) :: List.replicate c (.inr (0, n)))) (zrws σ (i + 1) c) A' B') : zK x F pc ls (.int (nI n) :: .int (nI c) :: st) dl σ A B := sorry
end ZMn
/-- the world with the forms -/
def zEf (c n : Nat) : List zDs := zEt ++ (.inr (c + 7, 49) :: List.replicate c (.inr (0, n)))
theorem zEf_f (c n : Nat) : (zEf c n).all zfr1 = true := by
  have hr : (List.replicate c (.inr (0, n) : zDs)).all zfr1 = true := List.all_eq_true.mpr (fun d hd => by rw [List.eq_of_mem_replicate hd]; rfl)
  have h : zfr1 (.inr (c + 7, 49)) = true := by
    show (decide (c + 7 < 7) || decide (28 ≤ 49)) = true
    rw [show decide (28 ≤ 49) = true from rfl, Bool.or_true]
  unfold zEf
  rw [List.all_append]
  show (zEt.all zfr1 && (zfr1 (.inr (c + 7, 49)) && (List.replicate c (.inr (0, n) : zDs)).all zfr1)) = true
  rw [h, hr]
  rfl
theorem zEf_n (c n : Nat) : (zD ++ zEf c n).length = 49 + c := by
  unfold zEf
  rw [List.length_append, List.length_append]
  show zD.length + (6 + ((List.replicate c (.inr (0, n) : zDs)).length + 1)) = 49 + c
  rw [List.length_replicate, zD_n]
  omega
theorem zEf_48 (c n : Nat) : (zD ++ zEf c n)[48]? = some (.inr (c + 7, 49)) := by
  rw [show (48 : Nat) = 42 + 6 from rfl, zDE_hi]
  rfl
theorem zEf_r {c n k : Nat} (hk : k < c) : (zD ++ zEf c n)[49 + k]? = some (.inr (0, n)) := by
  rw [show 49 + k = 42 + (7 + k) by omega, zDE_hi]
  unfold zEf
  rw [List.getElem?_append_right (by show 6 ≤ 7 + k; omega)]
  rw [show 7 + k - zEt.length = k + 1 by show 7 + k - 6 = k + 1; omega, List.getElem?_cons_succ, List.getElem?_replicate, if_pos hk]
theorem zEo_0 (E : List zDs) : (zD ++ E)[0]? = some (.inl (8, [(1, 1), (1, 3), (1, 11), (1, 19), (1, 20), (1, 26), (1, 31), (1, 34), (1, 37), (1, 40), (1, 41), (0, 0), (0, 0)])) := by rfl
theorem zo_0 (E : List zDs) : zoks (zD ++ E).length (.ref 0) = true := zoks_of (zEo_0 E) (by decide)
theorem zatE {E : List zDs} {d : zDs} : (zD ++ (E ++ [d]))[(zD ++ E).length]? = some d := by
  rw [← List.append_assoc]
  exact zat0
theorem dga_le (a : Nat → Nat) (ha : ∀ f, a f < 10) : ∀ n, dga a n < 10 ^ n := fun n => dga_lt n (fun f _ => ha f)
theorem dL_digits_0 : decode cL_digits 0 = .ok (.iconst 0, 1) := by decide +kernel
theorem dL_digits_1 : decode cL_digits 1 = .ok (.istore_n 1, 1) := by decide +kernel
theorem dL_digits_2 : decode cL_digits 2 = .ok (.aload_n 0, 1) := by decide +kernel
theorem dL_digits_3 : decode cL_digits 3 = .ok (.astore_n 2, 1) := by decide +kernel
theorem dL_digits_4 : decode cL_digits 4 = .ok (.aload_n 2, 1) := by decide +kernel
theorem dL_digits_5 : decode cL_digits 5 = .ok (.arraylength, 1) := by decide +kernel
theorem dL_digits_6 : decode cL_digits 6 = .ok (.istore_n 3, 1) := by decide +kernel
theorem dL_digits_7 : decode cL_digits 7 = .ok (.iconst 0, 1) := by decide +kernel
theorem dL_digits_8 : decode cL_digits 8 = .ok (.istore 4, 2) := by decide +kernel
theorem dL_digits_10 : decode cL_digits 10 = .ok (.iload 4, 2) := by decide +kernel
theorem dL_digits_12 : decode cL_digits 12 = .ok (.iload_n 3, 1) := by decide +kernel
theorem dL_digits_13 : decode cL_digits 13 = .ok (.if_icmp .ge 23, 3) := by decide +kernel
theorem dL_digits_16 : decode cL_digits 16 = .ok (.aload_n 2, 1) := by decide +kernel
theorem dL_digits_17 : decode cL_digits 17 = .ok (.iload 4, 2) := by decide +kernel
theorem dL_digits_19 : decode cL_digits 19 = .ok (.iaload, 1) := by decide +kernel
theorem dL_digits_20 : decode cL_digits 20 = .ok (.istore 5, 2) := by decide +kernel
theorem dL_digits_22 : decode cL_digits 22 = .ok (.bipush 10, 2) := by decide +kernel
theorem dL_digits_24 : decode cL_digits 24 = .ok (.iload_n 1, 1) := by decide +kernel
theorem dL_digits_25 : decode cL_digits 25 = .ok (.imul, 1) := by decide +kernel
theorem dL_digits_26 : decode cL_digits 26 = .ok (.iload 5, 2) := by decide +kernel
theorem dL_digits_28 : decode cL_digits 28 = .ok (.iadd, 1) := by decide +kernel
theorem dL_digits_29 : decode cL_digits 29 = .ok (.istore_n 1, 1) := by decide +kernel
theorem dL_digits_30 : decode cL_digits 30 = .ok (.iinc 4 1, 3) := by decide +kernel
theorem dL_digits_33 : decode cL_digits 33 = .ok (.goto (-23), 3) := by decide +kernel
theorem dL_digits_36 : decode cL_digits 36 = .ok (.iload_n 1, 1) := by decide +kernel
theorem dL_digits_37 : decode cL_digits 37 = .ok (.ireturn, 1) := by decide +kernel
theorem dg_one {l : Launch} {dl : List zDs} {σ : zS} {r n i : Nat} {a : Nat → Nat} (hr : dl[r]? = some (.inr (0, n))) (hn : n ≤ 5) (hi : i < n) (hw : ∀ f, f < n → σ.1 r f = nI (a f)) {x : zXx} {F A B : Nat} (hG : zG x cL_digits 6 RL (Option.some Jvm.ClassFile.FieldType.int)) (kk : zK x F 10 [(4, .int (nI (i + 1))), (1, .int (nI (dga a (i + 1)))), (3, .int (nI n)), (2, .ref r), (0, .ref r)] [] dl σ A B) : zK x F 10 [(4, .int (nI i)), (1, .int (nI (dga a i))), (3, .int (nI n)), (2, .ref r), (0, .ref r)] [] dl σ A B := by
  refine z_iload (pc := 10) hG 0 rfl dL_digits_10 ?_
  refine z_iload_n (pc := 12) hG 2 rfl rfl dL_digits_12 ?_
  refine z_icmp_ge (pc := 13) (tgt := 36) hG dL_digits_13 rfl (fun hbr => False.elim ((fun h => nI_nle2 hi (by omega) h) hbr)) (fun _ => ?_)
  refine z_aload_n (pc := 16) hG 3 rfl rfl dL_digits_16 ?_
  refine z_iload (pc := 17) hG 0 rfl dL_digits_17 ?_
  refine z_iald (pc := 19) hG hr (vp_in_nI hi (by omega)) dL_digits_19 ?_
  rw [nI_clamp (show i < 2 ^ 31 by omega), hw i hi]
  refine z_istore (pc := 20) (ls' := [(5, .int ((nI (a i)))), (4, .int ((nI i))), (1, .int ((nI (dga a i)))), (3, .int ((nI n))), (2, .ref r), (0, .ref r)]) hG [0, 1, 2, 3, 4, 5] (by decide) rfl dL_digits_20 ?_
  refine z_bipush (pc := 22) (v := (10 : Int32)) hG (by decide) dL_digits_22 ?_
  refine z_iload_n (pc := 24) hG 2 rfl rfl dL_digits_24 ?_
  refine z_imul (pc := 25) hG dL_digits_25 ?_
  rw [show ((10 : Int32) * (nI (dga a i))) = (nI (10 * dga a i)) from pk_mul 10 (dga a i)]
  refine z_iload (pc := 26) hG 0 rfl dL_digits_26 ?_
  refine z_iadd (pc := 28) hG dL_digits_28 ?_
  rw [show ((nI (10 * dga a i)) + (nI (a i))) = (nI (dga a (i + 1))) from nI_add (10 * dga a i) (a i)]
  refine z_istore_n (pc := 29) (ls' := [(1, .int ((nI (dga a (i + 1))))), (5, .int ((nI (a i)))), (4, .int ((nI i))), (3, .int ((nI n))), (2, .ref r), (0, .ref r)]) hG [0, 1, 2, 3, 4, 5] rfl (by decide) rfl dL_digits_29 ?_
  refine z_iinc (pc := 30) (v := (nI (i + 1))) (ls' := [(4, .int ((nI (i + 1)))), (1, .int ((nI (dga a (i + 1))))), (5, .int ((nI (a i)))), (3, .int ((nI n))), (2, .ref r), (0, .ref r)]) hG 2 rfl [0, 1, 2, 3, 4, 5] (nI_1s) (by decide) rfl dL_digits_30 ?_
  refine z_goto (pc := 33) (tgt := 10) hG dL_digits_33 rfl ?_
  refine z_sub [0, 1, 3, 4, 5] rfl ?_
  exact kk
theorem dg_all {l : Launch} {dl : List zDs} {σ : zS} {r n : Nat} {a : Nat → Nat} (hr : dl[r]? = some (.inr (0, n))) (hn : n ≤ 5) (hw : ∀ f, f < n → σ.1 r f = nI (a f)) {x : zXx} {F A B : Nat} (hG : zG x cL_digits 6 RL (Option.some Jvm.ClassFile.FieldType.int)) (kk : zK x F 10 [(4, .int (nI n)), (1, .int (nI (dga a n))), (3, .int (nI n)), (2, .ref r), (0, .ref r)] [] dl σ A B) : ∀ c i, i + c = n → zK x F 10 [(4, .int (nI i)), (1, .int (nI (dga a i))), (3, .int (nI n)), (2, .ref r), (0, .ref r)] [] dl σ A B
  | 0, i, h => by
    obtain rfl : i = n := h
    exact kk
  | c + 1, i, h => dg_one (l := l) hr hn (by omega) hw hG (dg_all (l := l) hr hn hw hG kk c (i + 1) (by omega))
theorem c_dig {l : Launch} (hl0 : l.flags = flags0) {dl : List zDs} {σ : zS} {r n : Nat} {a : Nat → Nat} (hr : dl[r]? = some (.inr (0, n))) (hn : n ≤ 5) (hw : ∀ f, f < n → σ.1 r f = nI (a f)) : zC l yL_digits cL_digits 6 (Option.some Jvm.ClassFile.FieldType.int) 0 0 0 [.ref r] dl σ (.inl (some (.int (nI (dga a n)))), dl, σ) := by
  refine zC_of hl0 rfl (Nat.le_of_ble_eq_true rfl) (fun x hG hxl hk _ => ?_)
  subst hxl
  show zK x 0 0 [(0, .ref r)] [] dl σ 0 0
  refine z_iconst (pc := 0) (v := (0 : Int32)) hG (by decide) dL_digits_0 ?_
  refine z_istore_n (pc := 1) (ls' := [(1, .int ((0 : Int32))), (0, .ref r)]) hG [0, 1] rfl (by decide) rfl dL_digits_1 ?_
  refine z_aload_n (pc := 2) hG 1 rfl rfl dL_digits_2 ?_
  refine z_astore_n (pc := 3) (ls' := [(2, .ref r), (1, .int ((0 : Int32))), (0, .ref r)]) hG [0, 1, 2] rfl (by decide) rfl dL_digits_3 ?_
  refine z_aload_n (pc := 4) hG 0 rfl rfl dL_digits_4 ?_
  refine z_alen (pc := 5) hG hr dL_digits_5 ?_
  refine z_istore_n (pc := 6) (ls' := [(3, .int ((nI n))), (2, .ref r), (1, .int ((0 : Int32))), (0, .ref r)]) hG [0, 1, 2, 3] rfl (by decide) rfl dL_digits_6 ?_
  refine z_iconst (pc := 7) (v := (0 : Int32)) hG (by decide) dL_digits_7 ?_
  refine z_istore (pc := 8) (ls' := [(4, .int ((0 : Int32))), (3, .int ((nI n))), (2, .ref r), (1, .int ((0 : Int32))), (0, .ref r)]) hG [0, 1, 2, 3, 4] (by decide) rfl dL_digits_8 ?_
  refine z_sub (ls' := [(4, .int (nI 0)), (1, .int (nI (dga a 0))), (3, .int (nI n)), (2, .ref r), (0, .ref r)]) [0, 3, 1, 2, 4] rfl ?_
  refine dg_all (l := zl0 x) hr hn hw hG ?_ n 0 (Nat.zero_add n)
  refine z_iload (pc := 10) hG 0 rfl dL_digits_10 ?_
  refine z_iload_n (pc := 12) hG 2 rfl rfl dL_digits_12 ?_
  refine z_icmp_ge (pc := 13) (tgt := 36) hG dL_digits_13 rfl (fun _ => ?_) (fun hbr => False.elim (hbr (Int32.le_refl _)))
  refine z_iload_n (pc := 36) hG 1 rfl rfl dL_digits_36 ?_
  exact z_iret (pc := 37) hG rfl rfl hk dL_digits_37
theorem dL_row_0 : decode cL_row 0 = .ok (.aload_n 0, 1) := by decide +kernel
theorem dL_row_1 : decode cL_row 1 = .ok (.iconst 0, 1) := by decide +kernel
theorem dL_row_2 : decode cL_row 2 = .ok (.invokevirtual 103, 3) := by decide +kernel
theorem dL_row_5 : decode cL_row 5 = .ok (.newarray .int, 2) := by decide +kernel
theorem dL_row_7 : decode cL_row 7 = .ok (.astore_n 2, 1) := by decide +kernel
theorem dL_row_8 : decode cL_row 8 = .ok (.iconst 0, 1) := by decide +kernel
theorem dL_row_9 : decode cL_row 9 = .ok (.istore_n 3, 1) := by decide +kernel
theorem dL_row_10 : decode cL_row 10 = .ok (.iload_n 3, 1) := by decide +kernel
theorem dL_row_11 : decode cL_row 11 = .ok (.aload_n 2, 1) := by decide +kernel
theorem dL_row_12 : decode cL_row 12 = .ok (.arraylength, 1) := by decide +kernel
theorem dL_row_13 : decode cL_row 13 = .ok (.if_icmp .ge 18, 3) := by decide +kernel
theorem dL_row_16 : decode cL_row 16 = .ok (.aload_n 2, 1) := by decide +kernel
theorem dL_row_17 : decode cL_row 17 = .ok (.iload_n 3, 1) := by decide +kernel
theorem dL_row_18 : decode cL_row 18 = .ok (.aload_n 0, 1) := by decide +kernel
theorem dL_row_19 : decode cL_row 19 = .ok (.iload_n 1, 1) := by decide +kernel
theorem dL_row_20 : decode cL_row 20 = .ok (.iload_n 3, 1) := by decide +kernel
theorem dL_row_21 : decode cL_row 21 = .ok (.invokevirtual 112, 3) := by decide +kernel
theorem dL_row_24 : decode cL_row 24 = .ok (.iastore, 1) := by decide +kernel
theorem dL_row_25 : decode cL_row 25 = .ok (.iinc 3 1, 3) := by decide +kernel
theorem dL_row_28 : decode cL_row 28 = .ok (.goto (-18), 3) := by decide +kernel
theorem dL_row_31 : decode cL_row 31 = .ok (.aload_n 2, 1) := by decide +kernel
theorem dL_row_32 : decode cL_row 32 = .ok (.areturn, 1) := by decide +kernel
theorem rw_one {l : Launch} (hl0 : l.flags = flags0) {E : List zDs} (hE : E.all zfr1 = true) {S : zSt} {σ : zS} {i f : Nat} (hi : i < S.2.1.1) (hp5 : pn S.1 ≤ 5) (hf : f < pn S.1) (hc : cI S σ) {A B : Nat} : ∀ x, zG x cL_row 4 RL (Option.some (Jvm.ClassFile.FieldType.array Jvm.ClassFile.FieldType.int)) ∧ zl0 x = l → zK x 10 10 [(3, .int (nI (f + 1))), (2, .ref (zD ++ E).length), (0, .ref 0), (1, .int (nI i))] [] (zD ++ (E ++ [.inr (0, pn S.1)])) (zi σ (zD ++ E).length f (nJ (rv (S.2.1.2.1 i) f))) A B → zK x 10 10 [(3, .int (nI f)), (2, .ref (zD ++ E).length), (0, .ref 0), (1, .int (nI i))] [] (zD ++ (E ++ [.inr (0, pn S.1)])) σ (A + 2) (B + 12) := by
  have hE2 : (E ++ [(.inr (0, pn S.1) : zDs)]).all zfr1 = true := by
    rw [List.all_append, hE]
    rfl
  have hoN : zoks (zD ++ (E ++ [(.inr (0, pn S.1) : zDs)])).length (.ref (zD ++ E).length) = true := zoks_of zatE (by rw [List.length_append, zD_n]; omega)
  rintro x ⟨hG, hxl⟩ kk
  subst hxl
  refine z_iload_n (pc := 10) hG 0 rfl rfl dL_row_10 ?_
  refine z_aload_n (pc := 11) hG 1 rfl rfl dL_row_11 ?_
  refine z_alen (pc := 12) hG zatE dL_row_12 ?_
  refine z_icmp_ge (pc := 13) (tgt := 31) hG dL_row_13 rfl (fun hbr => False.elim ((fun h => nI_nle2 hf (by omega) h) hbr)) (fun _ => ?_)
  refine z_aload_n (pc := 16) hG 1 rfl rfl dL_row_16 ?_
  refine z_iload_n (pc := 17) hG 0 rfl rfl dL_row_17 ?_
  refine z_aload_n (pc := 18) hG 2 rfl rfl dL_row_18 ?_
  refine z_iload_n (pc := 19) hG 3 rfl rfl dL_row_19 ?_
  refine z_iload_n (pc := 20) hG 0 rfl rfl dL_row_20 ?_
  refine z_virtS (pc := 21) (A' := A) (B' := B) (st2 := [.int ((nJ (rv (S.2.1.2.1 i) f))), .int ((nI f)), .ref (zD ++ E).length]) (v := some (.int ((nJ (rv (S.2.1.2.1 i) f))))) hG [.int ((nI i)), .int ((nI f))] [.int ((nI f)), .ref (zD ++ E).length] zc_X10 (zEo_0 _) (q_answer hl0 hE2 hc hi hf) zy_X10_answer ⟨w1261, w1262⟩ w1260 dL_row_21 rfl (Nat.le_of_ble_eq_true rfl) (Nat.le_refl _) (zand rfl (zand hoN rfl)) (zand rfl (zand hoN (zand (zo_0 _) (zand rfl rfl)))) rfl rfl (Nat.le_of_ble_eq_true rfl) rfl rfl ?_
  refine z_iast (pc := 24) hG zatE (vp_in_nI hf (by omega)) dL_row_24 ?_
  rw [nI_clamp (show f < 2 ^ 31 by omega)]
  refine z_iinc (pc := 25) (v := (nI (f + 1))) (ls' := [(3, .int ((nI (f + 1)))), (2, .ref (zD ++ E).length), (0, .ref 0), (1, .int ((nI i)))]) hG 0 rfl [0, 1, 2, 3] (nI_1s) (by decide) rfl dL_row_25 ?_
  refine z_goto (pc := 28) (tgt := 10) hG dL_row_28 rfl ?_
  exact kk
theorem rw_all {l : Launch} (hl0 : l.flags = flags0) {E : List zDs} (hE : E.all zfr1 = true) {S : zSt} {i : Nat} (hi : i < S.2.1.1) (hp5 : pn S.1 ≤ 5) : ∀ (c f : Nat) (σ : zS), f + c = pn S.1 → cI S σ → (∀ e, e < f → σ.1 (zD ++ E).length e = nJ (rv (S.2.1.2.1 i) e)) → ∃ σ', cI S σ' ∧ (∀ e, e < pn S.1 → σ'.1 (zD ++ E).length e = nJ (rv (S.2.1.2.1 i) e)) ∧ zAg (zD ++ E).length σ σ' ∧ ∀ (A B : Nat) x, zG x cL_row 4 RL (Option.some (Jvm.ClassFile.FieldType.array Jvm.ClassFile.FieldType.int)) ∧ zl0 x = l → zK x 10 10 [(3, .int (nI (pn S.1))), (2, .ref (zD ++ E).length), (0, .ref 0), (1, .int (nI i))] [] (zD ++ (E ++ [.inr (0, pn S.1)])) σ' A B → zK x 10 10 [(3, .int (nI f)), (2, .ref (zD ++ E).length), (0, .ref 0), (1, .int (nI i))] [] (zD ++ (E ++ [.inr (0, pn S.1)])) σ (A + 2 * c) (B + 12 * c)
  | 0, f, σ, h, hc, hw => by
    obtain rfl : f = pn S.1 := h
    exact ⟨σ, hc, hw, ⟨fun _ _ => ⟨rfl, rfl⟩, rfl⟩, fun A B x hx kk => kk⟩
  | c + 1, f, σ, h, hc, hw => by
    have hN : 42 ≤ (zD ++ E).length := by rw [List.length_append, zD_n]; omega
    obtain ⟨σ2, h1, h2, h3, h4⟩ := rw_all hl0 hE hi hp5 c (f + 1) (zi σ (zD ++ E).length f (nJ (rv (S.2.1.2.1 i) f))) (by omega) (cI_hi hc (fun c hc => ⟨zi_o (by omega), rfl⟩) rfl) (fun e he => by
      rw [zupd]
      by_cases h9 : e = f
      · rw [h9]; exact pk_us
      · rw [pk_un h9]; exact hw e (by omega))
    refine ⟨σ2, h1, h2, ⟨fun a ha => ⟨((h3.1 a ha).1).trans (zi_o ha), (h3.1 a ha).2⟩, h3.2⟩, fun A B x hx kk => ?_⟩
    exact z_wk (by omega) (by omega) (rw_one hl0 hE hi hp5 (show f < pn S.1 by omega) hc (A := A + 2 * c) (B := B + 12 * c) x hx (h4 A B x hx kk))
theorem c_row {l : Launch} (hl0 : l.flags = flags0) {E : List zDs} (hE : E.all zfr1 = true) (h9 : (zD ++ E).length < 900) (hbl : (zD ++ E).all (zbl (zD ++ E).length) = true) {S : zSt} {σ : zS} {i : Nat} (hi : i < S.2.1.1) (hp4 : pn S.1 ≤ 4) (hc : cI S σ) : ∃ σ', cI S σ' ∧ (∀ e, e < pn S.1 → σ'.1 (zD ++ E).length e = nJ (rv (S.2.1.2.1 i) e)) ∧ zAg (zD ++ E).length σ σ' ∧ zC l yL_row cL_row 4 (Option.some (Jvm.ClassFile.FieldType.array Jvm.ClassFile.FieldType.int)) 10 9 52 [.ref 0, .int (nI i)] (zD ++ E) σ (.inl (some (.ref (zD ++ E).length)), zD ++ (E ++ [.inr (0, pn S.1)]), σ') := by
  have hN : 42 ≤ (zD ++ E).length := by rw [List.length_append, zD_n]; omega
  have hc1 : cI S (zini σ (zD ++ E).length 0) := cI_hi hc (fun c hc => zini_ag.1 c (by omega)) rfl
  obtain ⟨σ1, h1, h2, h3, k1⟩ := rw_all hl0 hE hi (by omega) (pn S.1) 0 (zini σ (zD ++ E).length 0) (Nat.zero_add _) hc1 (fun e he => absurd he (Nat.not_lt_zero e))
  have hnl : ([(0, .ref 0), (1, .int (nI i))] : List (Nat × Value)).all (fun q => zokn (zD ++ E).length q.2) = true := zand (bne_iff_ne.mpr (show (0 : Nat) ≠ (zD ++ E).length by omega)) (zand rfl rfl)
  refine ⟨σ1, h1, h2, ⟨fun a ha => ⟨((h3.1 a ha).1).trans (zini_ag.1 a ha).1, ((h3.1 a ha).2).trans (zini_ag.1 a ha).2⟩, h3.2⟩, ?_⟩
  refine zC_of hl0 rfl (Nat.le_of_ble_eq_true rfl) (fun x hG hxl hk _ => ?_)
  subst hxl
  show zK x 10 0 [(0, .ref 0), (1, .int ((nI i)))] [] (zD ++ E) σ 9 52
  refine z_aload_n (pc := 0) hG 0 rfl rfl dL_row_0 ?_
  refine z_iconst (pc := 1) (v := (0 : Int32)) hG (by decide) dL_row_1 ?_
  refine z_virtS (pc := 2) (A' := 9) (B' := 52) (st2 := [.int ((nI (pn S.1)))]) (v := some (.int ((nI (pn S.1))))) hG [.int ((0 : Int32))] [] zc_X10 (zEo_0 _) (q_count0 hl0 hE hc) zy_X10_count ⟨w480, w481⟩ w479 dL_row_2 rfl (Nat.le_of_ble_eq_true rfl) (Nat.le_refl _) rfl (zand (zo_0 _) (zand rfl rfl)) rfl rfl (Nat.le_of_ble_eq_true rfl) rfl rfl ?_
  refine z_ini (zD ++ E).length 0 (Nat.le_refl _) ?_
  refine z_newa (pc := 5) (A' := 8) (B' := 48 + (4 - pn S.1)) (atype := .int) (t := 0) (N := pn S.1) (z := (pn S.1, .inl (fun _ => 0))) hG wa_int rfl (fun _ => rfl) rfl (fun _ _ => Iff.rfl) (i := (zD ++ E).length) rfl h9 (zbl_all hbl (Nat.le_refl _) (by rw [List.length_append, zD_n]; omega)) (dsc := .inr (0, pn S.1)) (fun ad ca => by show (Sum.inl (ca 0, pn S.1, Sum.inl ((zini σ (zD ++ E).length 0).1 (zD ++ E).length)) : va_E) = _; rw [zini_s]) (fun _ => rfl) (nI_pos (by omega)) (nI_clamp (by omega)) (by show pn S.1 * 4 ≤ 536870912; omega) rfl hnl (dl' := zD ++ (E ++ [.inr (0, pn S.1)])) (List.append_assoc _ _ _) rfl (by omega) dL_row_5 ?_
  refine z_astore_n (pc := 7) (ls' := [(2, .ref (zD ++ E).length), (0, .ref 0), (1, .int ((nI i)))]) hG [0, 1, 2] rfl (by decide) rfl dL_row_7 ?_
  refine z_iconst (pc := 8) (v := (0 : Int32)) hG (by decide) dL_row_8 ?_
  refine z_istore_n (pc := 9) (ls' := [(3, .int ((0 : Int32))), (2, .ref (zD ++ E).length), (0, .ref 0), (1, .int ((nI i)))]) hG [0, 1, 2, 3] rfl (by decide) rfl dL_row_9 ?_
  refine z_wk (A' := 0 + 2 * pn S.1) (B' := 0 + 12 * pn S.1) (by omega) (by omega) ?_
  refine k1 0 0 _ ⟨hG, rfl⟩ ?_
  refine z_iload_n (pc := 10) hG 0 rfl rfl dL_row_10 ?_
  refine z_aload_n (pc := 11) hG 1 rfl rfl dL_row_11 ?_
  refine z_alen (pc := 12) hG zatE dL_row_12 ?_
  refine z_icmp_ge (pc := 13) (tgt := 31) hG dL_row_13 rfl (fun _ => ?_) (fun hbr => False.elim (hbr (Int32.le_refl _)))
  refine z_aload_n (pc := 31) hG 1 rfl rfl dL_row_31 ?_
  exact z_aret (pc := 32) hG rfl hk dL_row_32
