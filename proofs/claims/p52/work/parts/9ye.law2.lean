/-! ===== the law's walk: all forms; ways and mends ===== -/
theorem bit_n {T f : Nat} (hT : T < 2147483648) (hf : f < 32) (h : T.testBit f = false) : (nI T >>> (nI f &&& 31)) &&& (1 : Int32) = nI 0 := by
  rw [nI_bit hT hf, h]
  rfl
theorem bit_y {T f : Nat} (hT : T < 2147483648) (hf : f < 32) (h : T.testBit f = true) : (nI T >>> (nI f &&& 31)) &&& (1 : Int32) = nI 1 := by
  rw [nI_bit hT hf, h]
  rfl
theorem fi_one {l : Launch} (hl0 : l.flags = flags0) {S : zSt} {σ : zS} {c i : Nat} (hB : lwB S c i) (hW : lwW S c i σ) {j w T f : Nat} {v7 v8 v9 : Int32} (hT : T < 2147483648) (hj : j < c) (hf : f < pn S.1) {A B : Nat} : ∀ x, zG x cL_law 18 RL ret ∧ zl0 x = l → zK x 70 156 [(17, .int (nI (f + 1))), (16, .int (bJ (T.testBit f || rv (S.2.1.2.1 i) f == mxv (pq S.1) (pn S.1) j f + 1))), (15, .ref (49 + j)), (14, .int (nI j)), (13, .int (nI c)), (12, .ref 48), (11, .int (nI w)), (10, .int (nI T)), (9, .int v9), (8, .int v8), (7, .int v7), (6, .int (nI (rmis (S.2.1.2.1 i) (pn S.1)))), (5, .ref (49 + c)), (4, .int (nI i)), (3, .ref 48), (2, .int (nI (pn S.1))), (1, .ref 0), (0, .ref 1041)] [] (zD ++ zEg c (pn S.1)) σ A B → zK x 70 156 [(17, .int (nI f)), (16, .int (bJ true)), (15, .ref (49 + j)), (14, .int (nI j)), (13, .int (nI c)), (12, .ref 48), (11, .int (nI w)), (10, .int (nI T)), (9, .int v9), (8, .int v8), (7, .int v7), (6, .int (nI (rmis (S.2.1.2.1 i) (pn S.1)))), (5, .ref (49 + c)), (4, .int (nI i)), (3, .ref 48), (2, .int (nI (pn S.1))), (1, .ref 0), (0, .ref 1041)] [] (zD ++ zEg c (pn S.1)) σ A B := by
  have hn4 := hB.1.2.1
  have h8 := rv_lt8 (S.2.1.2.1 i) f
  have hm : mxv (pq S.1) (pn S.1) j f < 5 := Nat.lt_of_lt_of_le (Nat.mod_lt _ (by have := (hB.1.2.2.1 f hf).1; omega)) (by have := (hB.1.2.2.1 f hf).2; omega)
  rintro x ⟨hG, hxl⟩ kk
  subst hxl
  refine z_iload (pc := 156) hG 0 rfl dL_law_156 ?_
  refine z_iload_n (pc := 158) hG 15 rfl rfl dL_law_158 ?_
  refine z_icmp_ge (pc := 159) (tgt := 204) hG dL_law_159 rfl (fun hbr => False.elim ((fun h => nI_nle2 hf (by omega) h) hbr)) (fun _ => ?_)
  refine z_iload (pc := 162) hG 1 rfl dL_law_162 ?_
  refine z_if_eq (pc := 164) (tgt := 204) hG dL_law_164 rfl (fun hbr => False.elim ((fun h => absurd h (by decide)) hbr)) (fun _ => ?_)
  refine z_iload (pc := 167) hG 7 rfl dL_law_167 ?_
  refine z_iload (pc := 169) hG 0 rfl dL_law_169 ?_
  refine z_ishr (pc := 171) hG dL_law_171 ?_
  refine z_iconst (pc := 172) (v := (1 : Int32)) hG (by decide) dL_law_172 ?_
  refine z_iand (pc := 173) hG dL_law_173 ?_
  by_cases hb : T.testBit f = true
  · rw [hb, Bool.true_or] at kk
    rw [show (((nI T) >>> ((nI f) &&& 31)) &&& (1 : Int32)) = (nI 1) from bit_y hT (by omega) hb]
    refine z_iconst (pc := 174) (v := (1 : Int32)) hG (by decide) dL_law_174 ?_
    refine z_icmp_eq (pc := 175) (tgt := 191) hG dL_law_175 rfl (fun _ => ?_) (fun hbr => False.elim (hbr (rfl)))
    refine z_iconst (pc := 191) (v := (1 : Int32)) hG (by decide) dL_law_191 ?_
    refine z_goto (pc := 192) (tgt := 196) hG dL_law_192 rfl ?_
    refine z_istore (pc := 196) (ls' := [(16, .int ((1 : Int32))), (17, .int ((nI f))), (15, .ref (49 + j)), (14, .int ((nI j))), (13, .int ((nI c))), (12, .ref 48), (11, .int ((nI w))), (10, .int ((nI T))), (9, .int v9), (8, .int v8), (7, .int v7), (6, .int ((nI (rmis (S.2.1.2.1 i) (pn S.1))))), (5, .ref (49 + c)), (4, .int ((nI i))), (3, .ref 48), (2, .int ((nI (pn S.1)))), (1, .ref 0), (0, .ref 1041)]) hG [0, 1, 2, 3, 4, 5, 6, 7, 8, 9, 10, 11, 12, 13, 14, 15, 16, 17] (by decide) rfl dL_law_196 ?_
    refine z_iinc (pc := 198) (v := (nI (f + 1))) (ls' := [(17, .int ((nI (f + 1)))), (16, .int ((1 : Int32))), (15, .ref (49 + j)), (14, .int ((nI j))), (13, .int ((nI c))), (12, .ref 48), (11, .int ((nI w))), (10, .int ((nI T))), (9, .int v9), (8, .int v8), (7, .int v7), (6, .int ((nI (rmis (S.2.1.2.1 i) (pn S.1))))), (5, .ref (49 + c)), (4, .int ((nI i))), (3, .ref 48), (2, .int ((nI (pn S.1)))), (1, .ref 0), (0, .ref 1041)]) hG 1 rfl [0, 1, 2, 3, 4, 5, 6, 7, 8, 9, 10, 11, 12, 13, 14, 15, 16, 17] (nI_1s) (by decide) rfl dL_law_198 ?_
    refine z_goto (pc := 201) (tgt := 156) hG dL_law_201 rfl ?_
    refine z_sub (ls' := [(17, .int (nI (f + 1))), (16, .int (bJ true)), (15, .ref (49 + j)), (14, .int (nI j)), (13, .int (nI c)), (12, .ref 48), (11, .int (nI w)), (10, .int (nI T)), (9, .int v9), (8, .int v8), (7, .int v7), (6, .int (nI (rmis (S.2.1.2.1 i) (pn S.1)))), (5, .ref (49 + c)), (4, .int (nI i)), (3, .ref 48), (2, .int (nI (pn S.1))), (1, .ref 0), (0, .ref 1041)]) [0, 1, 2, 3, 4, 5, 6, 7, 8, 9, 10, 11, 12, 13, 14, 15, 16, 17] rfl ?_
    exact kk
  · have hb : T.testBit f = false := by
      cases h : T.testBit f
      · rfl
      · exact absurd h hb
    rw [hb, Bool.false_or] at kk
    rw [show (((nI T) >>> ((nI f) &&& 31)) &&& (1 : Int32)) = (nI 0) from bit_n hT (by omega) hb]
    refine z_iconst (pc := 174) (v := (1 : Int32)) hG (by decide) dL_law_174 ?_
    refine z_icmp_eq (pc := 175) (tgt := 191) hG dL_law_175 rfl (fun hbr => False.elim ((fun h => absurd h (by decide)) hbr)) (fun _ => ?_)
    refine z_aload (pc := 178) hG 2 rfl dL_law_178 ?_
    refine z_iload (pc := 180) hG 0 rfl dL_law_180 ?_
    refine z_iald (pc := 182) hG (zEg_r hj) (vp_in_nI hf (by omega)) dL_law_182 ?_
    rw [nI_clamp (show f < 2 ^ 31 by omega), hW.2.1 j hj f hf]
    refine z_aload (pc := 183) hG 12 rfl dL_law_183 ?_
    refine z_iload (pc := 185) hG 0 rfl dL_law_185 ?_
    refine z_iald (pc := 187) hG (zEg_N _ _) (vp_in_nI hf (by omega)) dL_law_187 ?_
    rw [nI_clamp (show f < 2 ^ 31 by omega), hW.2.2 f hf]
    by_cases he : rv (S.2.1.2.1 i) f = mxv (pq S.1) (pn S.1) j f + 1
    · rw [show (rv (S.2.1.2.1 i) f == mxv (pq S.1) (pn S.1) j f + 1) = true from beq_iff_eq.mpr he] at kk
      refine z_icmp_ne (pc := 188) (tgt := 195) hG dL_law_188 rfl (fun hbr => False.elim ((fun h => h ((nJ_eqv (by omega) (by omega)).mpr he)) hbr)) (fun _ => ?_)
      refine z_iconst (pc := 191) (v := (1 : Int32)) hG (by decide) dL_law_191 ?_
      refine z_goto (pc := 192) (tgt := 196) hG dL_law_192 rfl ?_
      refine z_istore (pc := 196) (ls' := [(16, .int ((1 : Int32))), (17, .int ((nI f))), (15, .ref (49 + j)), (14, .int ((nI j))), (13, .int ((nI c))), (12, .ref 48), (11, .int ((nI w))), (10, .int ((nI T))), (9, .int v9), (8, .int v8), (7, .int v7), (6, .int ((nI (rmis (S.2.1.2.1 i) (pn S.1))))), (5, .ref (49 + c)), (4, .int ((nI i))), (3, .ref 48), (2, .int ((nI (pn S.1)))), (1, .ref 0), (0, .ref 1041)]) hG [0, 1, 2, 3, 4, 5, 6, 7, 8, 9, 10, 11, 12, 13, 14, 15, 16, 17] (by decide) rfl dL_law_196 ?_
      refine z_iinc (pc := 198) (v := (nI (f + 1))) (ls' := [(17, .int ((nI (f + 1)))), (16, .int ((1 : Int32))), (15, .ref (49 + j)), (14, .int ((nI j))), (13, .int ((nI c))), (12, .ref 48), (11, .int ((nI w))), (10, .int ((nI T))), (9, .int v9), (8, .int v8), (7, .int v7), (6, .int ((nI (rmis (S.2.1.2.1 i) (pn S.1))))), (5, .ref (49 + c)), (4, .int ((nI i))), (3, .ref 48), (2, .int ((nI (pn S.1)))), (1, .ref 0), (0, .ref 1041)]) hG 1 rfl [0, 1, 2, 3, 4, 5, 6, 7, 8, 9, 10, 11, 12, 13, 14, 15, 16, 17] (nI_1s) (by decide) rfl dL_law_198 ?_
      refine z_goto (pc := 201) (tgt := 156) hG dL_law_201 rfl ?_
      refine z_sub (ls' := [(17, .int (nI (f + 1))), (16, .int (bJ true)), (15, .ref (49 + j)), (14, .int (nI j)), (13, .int (nI c)), (12, .ref 48), (11, .int (nI w)), (10, .int (nI T)), (9, .int v9), (8, .int v8), (7, .int v7), (6, .int (nI (rmis (S.2.1.2.1 i) (pn S.1)))), (5, .ref (49 + c)), (4, .int (nI i)), (3, .ref 48), (2, .int (nI (pn S.1))), (1, .ref 0), (0, .ref 1041)]) [0, 1, 2, 3, 4, 5, 6, 7, 8, 9, 10, 11, 12, 13, 14, 15, 16, 17] rfl ?_
      exact kk
    · rw [show (rv (S.2.1.2.1 i) f == mxv (pq S.1) (pn S.1) j f + 1) = false from beq_eq_false_iff_ne.mpr he] at kk
      refine z_icmp_ne (pc := 188) (tgt := 195) hG dL_law_188 rfl (fun _ => ?_) (fun hbr => False.elim ((fun h => he ((nJ_eqv (by omega) (by omega)).mp h)) hbr))
      refine z_iconst (pc := 195) (v := (0 : Int32)) hG (by decide) dL_law_195 ?_
      refine z_istore (pc := 196) (ls' := [(16, .int ((0 : Int32))), (17, .int ((nI f))), (15, .ref (49 + j)), (14, .int ((nI j))), (13, .int ((nI c))), (12, .ref 48), (11, .int ((nI w))), (10, .int ((nI T))), (9, .int v9), (8, .int v8), (7, .int v7), (6, .int ((nI (rmis (S.2.1.2.1 i) (pn S.1))))), (5, .ref (49 + c)), (4, .int ((nI i))), (3, .ref 48), (2, .int ((nI (pn S.1)))), (1, .ref 0), (0, .ref 1041)]) hG [0, 1, 2, 3, 4, 5, 6, 7, 8, 9, 10, 11, 12, 13, 14, 15, 16, 17] (by decide) rfl dL_law_196 ?_
      refine z_iinc (pc := 198) (v := (nI (f + 1))) (ls' := [(17, .int ((nI (f + 1)))), (16, .int ((0 : Int32))), (15, .ref (49 + j)), (14, .int ((nI j))), (13, .int ((nI c))), (12, .ref 48), (11, .int ((nI w))), (10, .int ((nI T))), (9, .int v9), (8, .int v8), (7, .int v7), (6, .int ((nI (rmis (S.2.1.2.1 i) (pn S.1))))), (5, .ref (49 + c)), (4, .int ((nI i))), (3, .ref 48), (2, .int ((nI (pn S.1)))), (1, .ref 0), (0, .ref 1041)]) hG 1 rfl [0, 1, 2, 3, 4, 5, 6, 7, 8, 9, 10, 11, 12, 13, 14, 15, 16, 17] (nI_1s) (by decide) rfl dL_law_198 ?_
      refine z_goto (pc := 201) (tgt := 156) hG dL_law_201 rfl ?_
      refine z_sub (ls' := [(17, .int (nI (f + 1))), (16, .int (bJ false)), (15, .ref (49 + j)), (14, .int (nI j)), (13, .int (nI c)), (12, .ref 48), (11, .int (nI w)), (10, .int (nI T)), (9, .int v9), (8, .int v8), (7, .int v7), (6, .int (nI (rmis (S.2.1.2.1 i) (pn S.1)))), (5, .ref (49 + c)), (4, .int (nI i)), (3, .ref 48), (2, .int (nI (pn S.1))), (1, .ref 0), (0, .ref 1041)]) [0, 1, 2, 3, 4, 5, 6, 7, 8, 9, 10, 11, 12, 13, 14, 15, 16, 17] rfl ?_
      exact kk
theorem fi_all {l : Launch} (hl0 : l.flags = flags0) {S : zSt} {σ : zS} {c i : Nat} (hB : lwB S c i) (hW : lwW S c i σ) {j w T : Nat} {v7 v8 v9 : Int32} (hT : T < 2147483648) (hj : j < c) {A B : Nat} : ∀ (q f : Nat) (b0 b : Bool), f + q = pn S.1 → b = (b0 && alB (fun f => T.testBit f || rv (S.2.1.2.1 i) f == mxv (pq S.1) (pn S.1) j f + 1) f) → ∀ x, zG x cL_law 18 RL ret ∧ zl0 x = l → zK x 70 204 [(16, .int (bJ (b0 && alB (fun f => T.testBit f || rv (S.2.1.2.1 i) f == mxv (pq S.1) (pn S.1) j f + 1) (pn S.1)))), (14, .int (nI j)), (13, .int (nI c)), (12, .ref 48), (11, .int (nI w)), (10, .int (nI T)), (9, .int v9), (8, .int v8), (7, .int v7), (6, .int (nI (rmis (S.2.1.2.1 i) (pn S.1)))), (5, .ref (49 + c)), (4, .int (nI i)), (3, .ref 48), (2, .int (nI (pn S.1))), (1, .ref 0), (0, .ref 1041)] [] (zD ++ zEg c (pn S.1)) σ A B → zK x 70 156 [(17, .int (nI f)), (16, .int (bJ b)), (15, .ref (49 + j)), (14, .int (nI j)), (13, .int (nI c)), (12, .ref 48), (11, .int (nI w)), (10, .int (nI T)), (9, .int v9), (8, .int v8), (7, .int v7), (6, .int (nI (rmis (S.2.1.2.1 i) (pn S.1)))), (5, .ref (49 + c)), (4, .int (nI i)), (3, .ref 48), (2, .int (nI (pn S.1))), (1, .ref 0), (0, .ref 1041)] [] (zD ++ zEg c (pn S.1)) σ A B
  | 0, f, b0, b, h, hb, x, hx, kk => by
    obtain rfl : f = pn S.1 := h
    rw [← hb] at kk
    have hG := hx.1
    refine z_iload (pc := 156) hG 0 rfl dL_law_156 ?_
    refine z_iload_n (pc := 158) hG 15 rfl rfl dL_law_158 ?_
    refine z_icmp_ge (pc := 159) (tgt := 204) hG dL_law_159 rfl (fun _ => ?_) (fun hbr => False.elim (hbr (Int32.le_refl _)))
    refine z_sub (ls' := [(16, .int (bJ b)), (14, .int (nI j)), (13, .int (nI c)), (12, .ref 48), (11, .int (nI w)), (10, .int (nI T)), (9, .int v9), (8, .int v8), (7, .int v7), (6, .int (nI (rmis (S.2.1.2.1 i) (pn S.1)))), (5, .ref (49 + c)), (4, .int (nI i)), (3, .ref 48), (2, .int (nI (pn S.1))), (1, .ref 0), (0, .ref 1041)]) [1, 3, 4, 5, 6, 7, 8, 9, 10, 11, 12, 13, 14, 15, 16, 17] rfl ?_
    exact kk
  | q + 1, f, b0, b, h, hb, x, hx, kk => by
    have hf : f < pn S.1 := by omega
    have hn4 := hB.1.2.1
    cases b with
    | false =>
      have hz : (b0 && alB (fun f => T.testBit f || rv (S.2.1.2.1 i) f == mxv (pq S.1) (pn S.1) j f + 1) (pn S.1)) = false := by
        cases hz : (b0 && alB (fun f => T.testBit f || rv (S.2.1.2.1 i) f == mxv (pq S.1) (pn S.1) j f + 1) (pn S.1))
        · rfl
        · rw [Bool.and_eq_true] at hz
          have h1 : alB (fun f => T.testBit f || rv (S.2.1.2.1 i) f == mxv (pq S.1) (pn S.1) j f + 1) f = true := (alB_iff _ f).mpr fun e he => (alB_iff _ _).mp hz.2 e (by omega)
          rw [hz.1, h1] at hb
          cases hb
      rw [hz] at kk
      have hG := hx.1
      refine z_iload (pc := 156) hG 0 rfl dL_law_156 ?_
      refine z_iload_n (pc := 158) hG 15 rfl rfl dL_law_158 ?_
      refine z_icmp_ge (pc := 159) (tgt := 204) hG dL_law_159 rfl (fun hbr => False.elim ((fun h => nI_nle2 hf (by omega) h) hbr)) (fun _ => ?_)
      refine z_iload (pc := 162) hG 1 rfl dL_law_162 ?_
      refine z_if_eq (pc := 164) (tgt := 204) hG dL_law_164 rfl (fun _ => ?_) (fun hbr => False.elim (hbr (rfl)))
      refine z_sub (ls' := [(16, .int (bJ false)), (14, .int (nI j)), (13, .int (nI c)), (12, .ref 48), (11, .int (nI w)), (10, .int (nI T)), (9, .int v9), (8, .int v8), (7, .int v7), (6, .int (nI (rmis (S.2.1.2.1 i) (pn S.1)))), (5, .ref (49 + c)), (4, .int (nI i)), (3, .ref 48), (2, .int (nI (pn S.1))), (1, .ref 0), (0, .ref 1041)]) [1, 3, 4, 5, 6, 7, 8, 9, 10, 11, 12, 13, 14, 15, 16, 17] rfl ?_
      exact kk
    | true =>
      refine fi_one hl0 hB hW hT hj hf x hx (fi_all hl0 hB hW hT hj q (f + 1) b0 _ (by omega) ?_ x hx kk)
      rw [alB_s, ← Bool.and_assoc, ← hb, Bool.true_and]
theorem fo_end {l : Launch} (hl0 : l.flags = flags0) {S : zSt} {σ : zS} {c i : Nat} {j w T : Nat} {v7 v8 v9 : Int32} {A B : Nat} : ∀ (b : Bool) x, zG x cL_law 18 RL ret ∧ zl0 x = l → zK x 70 110 [(14, .int (nI (j + 1))), (13, .int (nI c)), (12, .ref 48), (11, .int (nI (if b then w + 1 else w))), (10, .int (nI T)), (9, .int v9), (8, .int v8), (7, .int v7), (6, .int (nI (rmis (S.2.1.2.1 i) (pn S.1)))), (5, .ref (49 + c)), (4, .int (nI i)), (3, .ref 48), (2, .int (nI (pn S.1))), (1, .ref 0), (0, .ref 1041)] [] (zD ++ zEg c (pn S.1)) σ A B → zK x 70 204 [(16, .int (bJ b)), (14, .int (nI j)), (13, .int (nI c)), (12, .ref 48), (11, .int (nI w)), (10, .int (nI T)), (9, .int v9), (8, .int v8), (7, .int v7), (6, .int (nI (rmis (S.2.1.2.1 i) (pn S.1)))), (5, .ref (49 + c)), (4, .int (nI i)), (3, .ref 48), (2, .int (nI (pn S.1))), (1, .ref 0), (0, .ref 1041)] [] (zD ++ zEg c (pn S.1)) σ A B := by
  intro b x hx kk
  have hG := hx.1
  cases b with
  | true =>
    show zK x 70 204 [(16, .int (bJ true)), (14, .int (nI j)), (13, .int (nI c)), (12, .ref 48), (11, .int (nI w)), (10, .int (nI T)), (9, .int v9), (8, .int v8), (7, .int v7), (6, .int (nI (rmis (S.2.1.2.1 i) (pn S.1)))), (5, .ref (49 + c)), (4, .int (nI i)), (3, .ref 48), (2, .int (nI (pn S.1))), (1, .ref 0), (0, .ref 1041)] [] (zD ++ zEg c (pn S.1)) σ A B
    refine z_iload (pc := 204) hG 4 rfl dL_law_204 ?_
    refine z_iload (pc := 206) hG 0 rfl dL_law_206 ?_
    refine z_if_eq (pc := 208) (tgt := 215) hG dL_law_208 rfl (fun hbr => False.elim ((fun h => absurd h (by decide)) hbr)) (fun _ => ?_)
    refine z_iconst (pc := 211) (v := (1 : Int32)) hG (by decide) dL_law_211 ?_
    refine z_goto (pc := 212) (tgt := 216) hG dL_law_212 rfl ?_
    refine z_iadd (pc := 216) hG dL_law_216 ?_
    rw [show ((nI w) + (1 : Int32)) = (nI (w + 1)) from nI_s w]
    refine z_istore (pc := 217) (ls' := [(11, .int ((nI (w + 1)))), (16, .int ((bJ true))), (14, .int ((nI j))), (13, .int ((nI c))), (12, .ref 48), (10, .int ((nI T))), (9, .int v9), (8, .int v8), (7, .int v7), (6, .int ((nI (rmis (S.2.1.2.1 i) (pn S.1))))), (5, .ref (49 + c)), (4, .int ((nI i))), (3, .ref 48), (2, .int ((nI (pn S.1)))), (1, .ref 0), (0, .ref 1041)]) hG [0, 1, 2, 3, 4, 5, 6, 7, 8, 9, 10, 11, 12, 13, 14, 15] (by decide) rfl dL_law_217 ?_
    refine z_iinc (pc := 219) (v := (nI (j + 1))) (ls' := [(14, .int ((nI (j + 1)))), (11, .int ((nI (w + 1)))), (16, .int ((bJ true))), (13, .int ((nI c))), (12, .ref 48), (10, .int ((nI T))), (9, .int v9), (8, .int v8), (7, .int v7), (6, .int ((nI (rmis (S.2.1.2.1 i) (pn S.1))))), (5, .ref (49 + c)), (4, .int ((nI i))), (3, .ref 48), (2, .int ((nI (pn S.1)))), (1, .ref 0), (0, .ref 1041)]) hG 2 rfl [0, 1, 2, 3, 4, 5, 6, 7, 8, 9, 10, 11, 12, 13, 14, 15] (nI_1s) (by decide) rfl dL_law_219 ?_
    refine z_goto (pc := 222) (tgt := 110) hG dL_law_222 rfl ?_
    refine z_sub (ls' := [(14, .int (nI (j + 1))), (13, .int (nI c)), (12, .ref 48), (11, .int (nI (w + 1))), (10, .int (nI T)), (9, .int v9), (8, .int v8), (7, .int v7), (6, .int (nI (rmis (S.2.1.2.1 i) (pn S.1)))), (5, .ref (49 + c)), (4, .int (nI i)), (3, .ref 48), (2, .int (nI (pn S.1))), (1, .ref 0), (0, .ref 1041)]) [0, 3, 4, 1, 5, 6, 7, 8, 9, 10, 11, 12, 13, 14, 15] rfl ?_
    exact kk
  | false =>
    show zK x 70 204 [(16, .int (bJ false)), (14, .int (nI j)), (13, .int (nI c)), (12, .ref 48), (11, .int (nI w)), (10, .int (nI T)), (9, .int v9), (8, .int v8), (7, .int v7), (6, .int (nI (rmis (S.2.1.2.1 i) (pn S.1)))), (5, .ref (49 + c)), (4, .int (nI i)), (3, .ref 48), (2, .int (nI (pn S.1))), (1, .ref 0), (0, .ref 1041)] [] (zD ++ zEg c (pn S.1)) σ A B
    refine z_iload (pc := 204) hG 4 rfl dL_law_204 ?_
    refine z_iload (pc := 206) hG 0 rfl dL_law_206 ?_
    refine z_if_eq (pc := 208) (tgt := 215) hG dL_law_208 rfl (fun _ => ?_) (fun hbr => False.elim (hbr (rfl)))
    refine z_iconst (pc := 215) (v := (0 : Int32)) hG (by decide) dL_law_215 ?_
    refine z_iadd (pc := 216) hG dL_law_216 ?_
    rw [show ((nI w) + (0 : Int32)) = (nI w) from Int32.add_zero _]
    refine z_istore (pc := 217) (ls' := [(11, .int ((nI w))), (16, .int ((bJ false))), (14, .int ((nI j))), (13, .int ((nI c))), (12, .ref 48), (10, .int ((nI T))), (9, .int v9), (8, .int v8), (7, .int v7), (6, .int ((nI (rmis (S.2.1.2.1 i) (pn S.1))))), (5, .ref (49 + c)), (4, .int ((nI i))), (3, .ref 48), (2, .int ((nI (pn S.1)))), (1, .ref 0), (0, .ref 1041)]) hG [0, 1, 2, 3, 4, 5, 6, 7, 8, 9, 10, 11, 12, 13, 14, 15] (by decide) rfl dL_law_217 ?_
    refine z_iinc (pc := 219) (v := (nI (j + 1))) (ls' := [(14, .int ((nI (j + 1)))), (11, .int ((nI w))), (16, .int ((bJ false))), (13, .int ((nI c))), (12, .ref 48), (10, .int ((nI T))), (9, .int v9), (8, .int v8), (7, .int v7), (6, .int ((nI (rmis (S.2.1.2.1 i) (pn S.1))))), (5, .ref (49 + c)), (4, .int ((nI i))), (3, .ref 48), (2, .int ((nI (pn S.1)))), (1, .ref 0), (0, .ref 1041)]) hG 2 rfl [0, 1, 2, 3, 4, 5, 6, 7, 8, 9, 10, 11, 12, 13, 14, 15] (nI_1s) (by decide) rfl dL_law_219 ?_
    refine z_goto (pc := 222) (tgt := 110) hG dL_law_222 rfl ?_
    refine z_sub (ls' := [(14, .int (nI (j + 1))), (13, .int (nI c)), (12, .ref 48), (11, .int (nI w)), (10, .int (nI T)), (9, .int v9), (8, .int v8), (7, .int v7), (6, .int (nI (rmis (S.2.1.2.1 i) (pn S.1)))), (5, .ref (49 + c)), (4, .int (nI i)), (3, .ref 48), (2, .int (nI (pn S.1))), (1, .ref 0), (0, .ref 1041)]) [0, 3, 4, 1, 5, 6, 7, 8, 9, 10, 11, 12, 13, 14, 15] rfl ?_
    exact kk
theorem fo_all {l : Launch} (hl0 : l.flags = flags0) {S : zSt} {σ : zS} {c i : Nat} (hB : lwB S c i) (hW : lwW S c i σ) {T : Nat} {v7 v8 v9 : Int32} (hT : T < 2147483648) : ∀ (q j : Nat), j + q = c → ∀ (A B : Nat) x, zG x cL_law 18 RL ret ∧ zl0 x = l → zK x 70 225 [(11, .int (nI (nws S.1 (S.2.1.2.1 i) T))), (10, .int (nI T)), (9, .int v9), (8, .int v8), (7, .int v7), (6, .int (nI (rmis (S.2.1.2.1 i) (pn S.1)))), (5, .ref (49 + c)), (4, .int (nI i)), (3, .ref 48), (2, .int (nI (pn S.1))), (1, .ref 0), (0, .ref 1041)] [] (zD ++ zEg c (pn S.1)) σ A B → zK x 70 110 [(14, .int (nI j)), (13, .int (nI c)), (12, .ref 48), (11, .int (nI (cnt (fun j => mSb (S.2.1.2.1 i) T (pn S.1) && (fs S.1 (mxv (pq S.1) (pn S.1) j) == 0) && alB (fun f => T.testBit f || rv (S.2.1.2.1 i) f == mxv (pq S.1) (pn S.1) j f + 1) (pn S.1)) j))), (10, .int (nI T)), (9, .int v9), (8, .int v8), (7, .int v7), (6, .int (nI (rmis (S.2.1.2.1 i) (pn S.1)))), (5, .ref (49 + c)), (4, .int (nI i)), (3, .ref 48), (2, .int (nI (pn S.1))), (1, .ref 0), (0, .ref 1041)] [] (zD ++ zEg c (pn S.1)) σ (A + q) (B + 6 * q)
  | 0, j, h, A, B, x, hx, kk => by
    obtain rfl : j = c := h
    have hG := hx.1
    have e : cnt (fun j => mSb (S.2.1.2.1 i) T (pn S.1) && (fs S.1 (mxv (pq S.1) (pn S.1) j) == 0) && alB (fun f => T.testBit f || rv (S.2.1.2.1 i) f == mxv (pq S.1) (pn S.1) j f + 1) (pn S.1)) j = nws S.1 (S.2.1.2.1 i) T := by
      rw [← lw_ways hW.1.1 (hW.rok hB), ← hB.2.1]
      cases hm : mSb (S.2.1.2.1 i) T (pn S.1)
      · rw [if_neg (by decide)]
        exact (cnt_none (A := 0) (Nat.zero_le _) (fun _ _ _ => rfl)).trans rfl
      · rw [if_pos rfl]
        refine cnt_congr j (fun k _ => ?_)
        show (true && (fs S.1 (mxv (pq S.1) (pn S.1) k) == 0) && alB _ (pn S.1)) = (alB _ (pn S.1) && (fs S.1 (mxv (pq S.1) (pn S.1) k) == 0))
        rw [Bool.true_and, Bool.and_comm]
    rw [← e] at kk
    refine z_iload (pc := 110) hG 0 rfl dL_law_110 ?_
    refine z_iload (pc := 112) hG 1 rfl dL_law_112 ?_
    refine z_icmp_ge (pc := 114) (tgt := 225) hG dL_law_114 rfl (fun _ => ?_) (fun hbr => False.elim (hbr (Int32.le_refl _)))
    refine z_sub (ls' := [(11, .int (nI (cnt (fun j => mSb (S.2.1.2.1 i) T (pn S.1) && (fs S.1 (mxv (pq S.1) (pn S.1) j) == 0) && alB (fun f => T.testBit f || rv (S.2.1.2.1 i) f == mxv (pq S.1) (pn S.1) j f + 1) (pn S.1)) j))), (10, .int (nI T)), (9, .int v9), (8, .int v8), (7, .int v7), (6, .int (nI (rmis (S.2.1.2.1 i) (pn S.1)))), (5, .ref (49 + j)), (4, .int (nI i)), (3, .ref 48), (2, .int (nI (pn S.1))), (1, .ref 0), (0, .ref 1041)]) [3, 4, 5, 6, 7, 8, 9, 10, 11, 12, 13, 14] rfl ?_
    exact kk
  | q + 1, j, h, A, B, x, hx, kk => by
    have hj : j < c := by omega
    have k2 := fo_all hl0 hB hW (v7 := v7) (v8 := v8) (v9 := v9) hT q (j + 1) (by omega) A B x hx kk
    exact z_wk (A' := A + q + 1) (B' := B + 6 * q + 6) (by omega) (by omega) (fo_beg hl0 hB hW (T := T) (v7 := v7) (v8 := v8) (v9 := v9) hj x hx (fi_all hl0 hB hW hT hj (pn S.1) 0 (mSb (S.2.1.2.1 i) T (pn S.1) && (fs S.1 (mxv (pq S.1) (pn S.1) j) == 0)) _ (Nat.zero_add _) (Bool.and_true _).symm x hx (fo_end hl0 _ x hx k2)))
theorem lw_wm {l : Launch} (hl0 : l.flags = flags0) {S : zSt} {σ : zS} {c i : Nat} (hB : lwB S c i) (hW : lwW S c i σ) {T : Nat} {v7 v8 v9 : Int32} (hT2 : T < 2 ^ pn S.1) : ∃ σ', lwW S c i σ' ∧ hiE σ σ' ∧ σ.2.2.2 ≤ σ'.2.2.2 ∧ ∀ (A B : Nat) x, zG x cL_law 18 RL ret ∧ zl0 x = l → zK x 70 261 [(11, .int (nI (nws S.1 (S.2.1.2.1 i) T))), (10, .int (nI T)), (9, .int v9), (8, .int v8), (7, .int v7), (6, .int (nI (rmis (S.2.1.2.1 i) (pn S.1)))), (5, .ref (49 + c)), (4, .int (nI i)), (3, .ref 48), (2, .int (nI (pn S.1))), (1, .ref 0), (0, .ref 1041)] [] (zD ++ zEg c (pn S.1)) σ' A B → zK x 70 225 [(11, .int (nI (nws S.1 (S.2.1.2.1 i) T))), (10, .int (nI T)), (9, .int v9), (8, .int v8), (7, .int v7), (6, .int (nI (rmis (S.2.1.2.1 i) (pn S.1)))), (5, .ref (49 + c)), (4, .int (nI i)), (3, .ref 48), (2, .int (nI (pn S.1))), (1, .ref 0), (0, .ref 1041)] [] (zD ++ zEg c (pn S.1)) σ (A + 4) (B + 24) := by
  obtain ⟨σ', hc2, hh, hcap, hC⟩ := q_ways hl0 (zEg_f c (pn S.1)) hW.1 hB.p0 hB.2.2 hT2
  refine ⟨σ', lwW_hi hW hc2 hh, hh, hcap, ?_⟩
  rintro A B x ⟨hG, hxl⟩ kk
  subst hxl
  have hcmd := nws_cmd hW.1.1 (T := T) (hW.rok hB)
  have hnl : nws S.1 (S.2.1.2.1 i) T ≤ 256 := by
    rw [← lw_ways hW.1.1 (hW.rok hB)]
    have h1 := cnt_le (isW S.1 (S.2.1.2.1 i) T) (mxr (pq S.1) (pn S.1) (pn S.1))
    have h2 := hB.c256
    have h3 := hB.2.1
    split
    · omega
    · omega
  refine z_aload_n (pc := 225) hG 10 rfl rfl dL_law_225 ?_
  refine z_iload (pc := 226) hG 7 rfl dL_law_226 ?_
  refine z_iload (pc := 228) hG 1 rfl dL_law_228 ?_
  refine z_virtS (pc := 230) (A' := A + 2) (B' := B + 12) (st2 := [.int ((nI (nws S.1 (S.2.1.2.1 i) T)))]) (v := some (.int ((nI (nws S.1 (S.2.1.2.1 i) T))))) hG [.int ((nI i)), .int ((nI T))] [] zc_X10 (zEo_0 _) (hC) zy_X10_ways ⟨w328, w329⟩ w327 dL_law_230 rfl (Nat.le_of_ble_eq_true rfl) (Nat.le_refl _) rfl (zand rfl (zand rfl (zand rfl (zand rfl (zand rfl (zand rfl (zand (zog_N _ _) (zand rfl (zand (zog_48 _ _) (zand rfl (zand (zo_0 _) (zand (zoks_hi (by decide)) rfl)))))))))))) rfl rfl (Nat.le_of_ble_eq_true rfl) rfl rfl ?_
  refine z_iload (pc := 233) hG 0 rfl dL_law_233 ?_
  refine z_icmp_ne (pc := 235) (tgt := 259) hG dL_law_235 rfl (fun hbr => False.elim ((fun h => h rfl) hbr)) (fun _ => ?_)
  refine z_aload_n (pc := 238) hG 10 rfl rfl dL_law_238 ?_
  refine z_iload (pc := 239) hG 7 rfl dL_law_239 ?_
  refine z_iload (pc := 241) hG 1 rfl dL_law_241 ?_
  refine z_virtS (pc := 243) (A' := A) (B' := B) (st2 := [.int ((if cmd S.1 (S.2.1.2.1 i) T then 1 else 0 : Int32))]) (v := some (.int ((if cmd S.1 (S.2.1.2.1 i) T then 1 else 0 : Int32)))) hG [.int ((nI i)), .int ((nI T))] [] zc_X10 (zEo_0 _) (q_mends hl0 (zEg_f _ _) hc2 hB.p0 hB.2.2 hT2) zy_X10_mends ⟨w308, w309⟩ w307 dL_law_243 rfl (Nat.le_of_ble_eq_true rfl) (Nat.le_refl _) rfl (zand rfl (zand rfl (zand rfl (zand rfl (zand rfl (zand rfl (zand (zog_N _ _) (zand rfl (zand (zog_48 _ _) (zand rfl (zand (zo_0 _) (zand (zoks_hi (by decide)) rfl)))))))))))) rfl rfl (Nat.le_of_ble_eq_true rfl) rfl rfl ?_
  by_cases hp0 : 0 < nws S.1 (S.2.1.2.1 i) T
  · have hcm : cmd S.1 (S.2.1.2.1 i) T = true := by rw [hcmd]; exact decide_eq_true hp0
    refine z_iload (pc := 246) hG 0 rfl dL_law_246 ?_
    refine z_if_le (pc := 248) (tgt := 255) hG dL_law_248 rfl (fun hbr => False.elim ((fun h => nI_nle hp0 (by omega) h) hbr)) (fun _ => ?_)
    refine z_iconst (pc := 251) (v := (1 : Int32)) hG (by decide) dL_law_251 ?_
    refine z_goto (pc := 252) (tgt := 256) hG dL_law_252 rfl ?_
    refine z_icmp_eq (pc := 256) (tgt := 261) hG dL_law_256 rfl (fun _ => ?_) (fun hbr => False.elim (hbr (by rw [if_pos hcm])))
    exact kk
  · have hcm : ¬ cmd S.1 (S.2.1.2.1 i) T = true := by rw [hcmd, decide_eq_true_eq]; exact hp0
    have hp0 : nws S.1 (S.2.1.2.1 i) T = 0 := by omega
    refine z_iload (pc := 246) hG 0 rfl dL_law_246 ?_
    refine z_if_le (pc := 248) (tgt := 255) hG dL_law_248 rfl (fun _ => ?_) (fun hbr => False.elim (hbr (by rw [hp0]; decide)))
    refine z_iconst (pc := 255) (v := (0 : Int32)) hG (by decide) dL_law_255 ?_
    refine z_icmp_eq (pc := 256) (tgt := 261) hG dL_law_256 rfl (fun _ => ?_) (fun hbr => False.elim (hbr (by rw [if_neg hcm])))
    exact kk
