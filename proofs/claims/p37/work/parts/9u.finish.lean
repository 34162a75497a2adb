
/-! ===== read: the class takes the draft ===== -/
section Fi
variable {g h k : zS} {tn : Nat} {tb : Nat → Nat} {s p t : Nat} {P : zPl} {N : Nat} {r : Nat → Nat}
theorem zcp0 (g : zS) {i j m k : Nat} (hm : m < 2147483648) (hk : k < m) : (zcpy g i j (0 : Int32) (0 : Int32) (nI m)).1 j k = g.1 i k := by
  have e := zcpyA g (i := i) (j := j) (a := 0) (b := 0) (n := m) (k := k) (by omega) (by omega) hm
  rw [if_pos (by omega), Nat.zero_add, Nat.sub_zero] at e
  exact e
def cf1 (g : zS) : zS := zi g 3 0 (g.1 11 0)
def cf2 (g : zS) : zS := zcpy (cf1 g) 12 4 (0 : Int32) (0 : Int32) (5 : Int32)
def cf3 (g : zS) : zS := zcpy (cf2 g) 13 5 (0 : Int32) (0 : Int32) (5 : Int32)
def cf4 (g : zS) : zS := zcpy (cf3 g) 14 6 (0 : Int32) (0 : Int32) (5 : Int32)
def cf5 (g : zS) : zS := zcpy (cf4 g) 15 7 (0 : Int32) (0 : Int32) (30 : Int32)
def cf6 (g : zS) : zS := zcpy (cf5 g) 16 8 (0 : Int32) (0 : Int32) (5 : Int32)
def cf7 (g : zS) : zS := zi (cf6 g) 3 6 ((cf6 g).1 11 6)
def cf8 (g : zS) : zS := zi (cf7 g) 3 7 ((cf7 g).1 11 7)
def cf9 (g : zS) : zS := zcpy (cf8 g) 17 9 (0 : Int32) (0 : Int32) (30 : Int32)
def cf10 (g : zS) : zS := zi (cf9 g) 3 9 ((cf9 g).1 11 9)
def cf11 (g : zS) : zS := zcpy (cf10 g) 18 10 (0 : Int32) (0 : Int32) (40 : Int32)
theorem cf_4 {k : Nat} (hk : k < 5) : (cf11 g).1 4 k = g.1 12 k := by
    have e1 : (cf11 g).1 4 = (cf2 g).1 4 := by simp (disch := decide) only [cf11, cf10, cf9, cf8, cf7, cf6, cf5, cf4, cf3, zcpy_cell, zi_cell]
    have e2 : (cf1 g).1 12 = g.1 12 := by simp (disch := decide) only [cf1, zcpy_cell, zi_cell]
    rw [e1, ← e2]
    exact zcp0 (cf1 g) (i := 12) (j := 4) (m := 5) (by omega) hk
theorem cf_5 {k : Nat} (hk : k < 5) : (cf11 g).1 5 k = g.1 13 k := by
    have e1 : (cf11 g).1 5 = (cf3 g).1 5 := by simp (disch := decide) only [cf11, cf10, cf9, cf8, cf7, cf6, cf5, cf4, zcpy_cell, zi_cell]
    have e2 : (cf2 g).1 13 = g.1 13 := by simp (disch := decide) only [cf2, cf1, zcpy_cell, zi_cell]
    rw [e1, ← e2]
    exact zcp0 (cf2 g) (i := 13) (j := 5) (m := 5) (by omega) hk
theorem cf_6 {k : Nat} (hk : k < 5) : (cf11 g).1 6 k = g.1 14 k := by
    have e1 : (cf11 g).1 6 = (cf4 g).1 6 := by simp (disch := decide) only [cf11, cf10, cf9, cf8, cf7, cf6, cf5, zcpy_cell, zi_cell]
    have e2 : (cf3 g).1 14 = g.1 14 := by simp (disch := decide) only [cf3, cf2, cf1, zcpy_cell, zi_cell]
    rw [e1, ← e2]
    exact zcp0 (cf3 g) (i := 14) (j := 6) (m := 5) (by omega) hk
theorem cf_7 {k : Nat} (hk : k < 30) : (cf11 g).1 7 k = g.1 15 k := by
    have e1 : (cf11 g).1 7 = (cf5 g).1 7 := by simp (disch := decide) only [cf11, cf10, cf9, cf8, cf7, cf6, zcpy_cell, zi_cell]
    have e2 : (cf4 g).1 15 = g.1 15 := by simp (disch := decide) only [cf4, cf3, cf2, cf1, zcpy_cell, zi_cell]
    rw [e1, ← e2]
    exact zcp0 (cf4 g) (i := 15) (j := 7) (m := 30) (by omega) hk
theorem cf_8 {k : Nat} (hk : k < 5) : (cf11 g).1 8 k = g.1 16 k := by
    have e1 : (cf11 g).1 8 = (cf6 g).1 8 := by simp (disch := decide) only [cf11, cf10, cf9, cf8, cf7, zcpy_cell, zi_cell]
    have e2 : (cf5 g).1 16 = g.1 16 := by simp (disch := decide) only [cf5, cf4, cf3, cf2, cf1, zcpy_cell, zi_cell]
    rw [e1, ← e2]
    exact zcp0 (cf5 g) (i := 16) (j := 8) (m := 5) (by omega) hk
theorem cf_9 {k : Nat} (hk : k < 30) : (cf11 g).1 9 k = g.1 17 k := by
    have e1 : (cf11 g).1 9 = (cf9 g).1 9 := by simp (disch := decide) only [cf11, cf10, zcpy_cell, zi_cell]
    have e2 : (cf8 g).1 17 = g.1 17 := by simp (disch := decide) only [cf8, cf7, cf6, cf5, cf4, cf3, cf2, cf1, zcpy_cell, zi_cell]
    rw [e1, ← e2]
    exact zcp0 (cf8 g) (i := 17) (j := 9) (m := 30) (by omega) hk
theorem cf_10 {k : Nat} (hk : k < 40) : (cf11 g).1 10 k = g.1 18 k := by
    have e2 : (cf10 g).1 18 = g.1 18 := by simp (disch := decide) only [cf10, cf9, cf8, cf7, cf6, cf5, cf4, cf3, cf2, cf1, zcpy_cell, zi_cell]
    rw [← e2]
    exact zcp0 (cf10 g) (i := 18) (j := 10) (m := 40) (by omega) hk
theorem cf_30 : (cf11 g).1 3 0 = g.1 11 0 := by simp (disch := decide) only [cf11, cf10, cf9, cf8, cf7, cf6, cf5, cf4, cf3, cf2, cf1, zcpy_cell, zi_cell, zi_else, zi_at]
theorem cf_36 : (cf11 g).1 3 6 = g.1 11 6 := by simp (disch := decide) only [cf11, cf10, cf9, cf8, cf7, cf6, cf5, cf4, cf3, cf2, cf1, zcpy_cell, zi_cell, zi_else, zi_at]
theorem cf_37 : (cf11 g).1 3 7 = g.1 11 7 := by simp (disch := decide) only [cf11, cf10, cf9, cf8, cf7, cf6, cf5, cf4, cf3, cf2, cf1, zcpy_cell, zi_cell, zi_else, zi_at]
theorem cf_39 : (cf11 g).1 3 9 = g.1 11 9 := by simp (disch := decide) only [cf11, cf10, cf9, cf8, cf7, cf6, cf5, cf4, cf3, cf2, cf1, zcpy_cell, zi_cell, zi_else, zi_at]
def kFi (c : Nat) : Bool := (decide (3 ≤ c) && decide (c ≤ 10)) || (decide (20 ≤ c) && decide (c ≤ 26)) || c == 31 || c == 32
theorem cf_fr (g : zS) : fr kFi g (cf11 g) := fr_tr (fr_zi (c := 3) rfl _ _ _) (fr_tr (fr_zir (c := 4) rfl (cf1 g) _) (fr_tr (fr_zir (c := 5) rfl (cf2 g) _) (fr_tr (fr_zir (c := 6) rfl (cf3 g) _) (fr_tr (fr_zir (c := 7) rfl (cf4 g) _) (fr_tr (fr_zir (c := 8) rfl (cf5 g) _) (fr_tr (fr_zi (c := 3) rfl (cf6 g) _ _) (fr_tr (fr_zi (c := 3) rfl (cf7 g) _ _) (fr_tr (fr_zir (c := 9) rfl (cf8 g) _) (fr_tr (fr_zi (c := 3) rfl (cf9 g) _ _) (fr_zir (c := 10) rfl (cf10 g) _))))))))))
theorem e_copyFrom (hD : cDf P N r g) (hO : pOK P) (hb : bt15 g) : nX6_copyFrom_d g = some (cf11 g) ∧ cP P (cf11 g) ∧ (cf11 g).1 3 9 = nI N ∧ ∀ k, k < N → (cf11 g).1 10 k = nI (r k) := by
  have h5 := hO.1
  obtain ⟨d0, d1, d2, d3, d4, d5, d6, d7, d8, d9, d10⟩ := hD
  refine ⟨?_, ⟨by rw [cf_30]; exact d0, fun f hf => by rw [cf_4 (by omega)]; exact d1 f hf, fun f hf => by rw [cf_5 (by omega)]; exact d2 f hf, fun f hf => by rw [cf_6 (by omega)]; exact d3 f hf, by rw [cf_36]; exact d4, by rw [cf_37]; exact d5, fun e he f hf => by rw [cf_9 (by have := hO.2.2.2.1; omega)]; exact d6 e he f hf, fun f hf => ⟨by rw [cf_8 (by omega)]; exact (d7 f hf).1, fun i hi => by rw [cf_7 (by have := (hO.2.2.1 f hf).1; omega)]; exact (d7 f hf).2 i hi⟩⟩, by rw [cf_39]; exact d8, fun i hi => by rw [cf_10 (by omega)]; exact (d10 i hi).1⟩
  have z1 : zcpo (0 : Int32) (0 : Int32) (5 : Int32) 5 5 = true := by decide
  have z2 : zcpo (0 : Int32) (0 : Int32) (30 : Int32) 30 30 = true := by decide
  have z3 : zcpo (0 : Int32) (0 : Int32) (40 : Int32) 40 40 = true := by decide
  have z4 : zcpb ((cf4 g).1 15) (0 : Int32) (30 : Int32) = true := by
    have e : (cf4 g).1 15 = g.1 15 := by simp (disch := decide) only [cf4, cf3, cf2, cf1, zcpy_cell, zi_cell]
    unfold zcpb
    rw [e, List.all_eq_true]
    intro i hi
    rw [List.mem_range] at hi
    have := hb i hi
    rw [show (0 : Int32).toNatClampNeg = 0 from rfl, Nat.zero_add]
    exact this
  unfold nX6_copyFrom_d
  rw [zchk_t z1, zchk_t z1, zchk_t z1, zchk_t z2, zchk_t (show zcpb ((zcpy (zcpy (zcpy (zi g 3 0 (g.1 11 0)) 12 4 (0 : Int32) (0 : Int32) (5 : Int32)) 13 5 (0 : Int32) (0 : Int32) (5 : Int32)) 14 6 (0 : Int32) (0 : Int32) (5 : Int32)).1 15) (0 : Int32) (30 : Int32) = true from z4), zchk_t z1, zchk_t z2, zchk_t z3]
  rfl
theorem e_finish (hO : pOK P) (hp : pn P ≠ 0) (hD : cDf P N r g) (hb : bt15 g) (hG : g.2.2.1 ≤ 1) (hl : 64 ≤ g.2.2.2 ∧ g.2.2.2 ≤ 2097152) : ∃ h, ((nX6_copyFrom_d g).bind fun v3 => (nX5_prepare v3).bind fun v4 => (nX0_forget v4).bind fun v5 => (nX8_start v5).bind fun v6 => some (((.inl (v6.1 31 1) : Int32 ⊕ String), v6))) = some (.inl (nI N), h) ∧ cPn P h ∧ cRw P (N, r, 0, fun _ => 0, fun _ _ => 0) h ∧ bKn P h ∧ fr kFi g h := by
  obtain ⟨w1, p1, p2, p3⟩ := e_copyFrom hD hO hb
  have f1 := cf_fr g
  obtain ⟨g2, w2, q1, q2, q3, q4, q5⟩ := e_prepare hO p1 (f1.2.1 hG)
  have N40 := hD.2.2.2.2.2.2.2.2.2.1
  have f2 : fr kFi g g2 := fr_tr f1 (fr_le (fun c hc => by
    unfold kFi at hc
    unfold kLg
    rw [Bool.or_eq_false_iff, Bool.or_eq_false_iff, Bool.or_eq_false_iff, Bool.and_eq_false_iff, Bool.and_eq_false_iff, decide_eq_false_iff_not, decide_eq_false_iff_not, decide_eq_false_iff_not, decide_eq_false_iff_not] at hc
    rw [Bool.and_eq_false_iff, decide_eq_false_iff_not, decide_eq_false_iff_not]
    omega) q5)
  have e3 : g2.1 3 = (cf11 g).1 3 := (q5.1 3 rfl).1
  have e10 : g2.1 10 = (cf11 g).1 10 := (q5.1 10 rfl).1
  obtain ⟨z, ez⟩ : ∃ z, z = zi (zcpy (zi (zi g2 26 4 (0 : Int32)) 31 1 ((zi g2 26 4 (0 : Int32)).1 3 9)) 10 32 (0 : Int32) (0 : Int32) (40 : Int32)) 31 2 (0 : Int32) := ⟨_, rfl⟩
  have f3 : fr (fun c => c == 26 || c == 31 || c == 32) g2 z := by
    rw [ez]
    exact fr_tr (fr_zi (c := 26) rfl _ _ _) (fr_tr (fr_zi (c := 31) rfl _ _ _) (fr_tr (fr_zir (c := 32) rfl (zi (zi g2 26 4 (0 : Int32)) 31 1 ((zi g2 26 4 (0 : Int32)).1 3 9)) _) (fr_zi (c := 31) rfl _ _ _)))
  have z311 : z.1 31 1 = nI N := by
    rw [ez, zi_else _ _ (by decide), zcpy_cell _ _ _ _ (by decide), zi_at, zi_cell _ _ (by decide), e3]
    exact p2
  have z312 : z.1 31 2 = nI 0 := by rw [ez, zi_at]; rfl
  have z32 : ∀ k, k < N → z.1 32 k = nI (r k) := fun k hk => by
    rw [ez, zi_cell _ _ (by decide)]
    have := zcp0 (zi (zi g2 26 4 (0 : Int32)) 31 1 ((zi g2 26 4 (0 : Int32)).1 3 9)) (i := 10) (j := 32) (m := 40) (k := k) (by omega) (by omega)
    refine this.trans ?_
    rw [zi_cell _ _ (by decide), zi_cell _ _ (by decide), e10]
    exact p3 k hk
  have z26 : z.1 26 4 = 0 := by
    rw [ez, zi_cell _ _ (by decide), zcpy_cell _ _ _ _ (by decide), zi_cell _ _ (by decide), zi_at]
  refine ⟨z, ?_, ?_, ⟨⟨z311, N40, fun k hk => ⟨z32 k hk, (hD.2.2.2.2.2.2.2.2.2.2 k hk).2⟩⟩, ⟨z312, Nat.zero_le _, fun p hp => absurd hp (Nat.not_lt_zero p)⟩, fun e => absurd e hp⟩, Or.inl ⟨z26, ?_, ?_⟩, fr_tr f2 (fr_le (fun c hc => ?_) f3)⟩
  · rw [w1, Option.bind_some, w2, Option.bind_some]
    unfold nX0_forget nX8_start
    rw [Option.bind_some, zchk_t (show zcpo (0 : Int32) (0 : Int32) (40 : Int32) 40 40 = true by decide), Option.bind_some, ← ez, z311]
  · have pn6 : z.1 20 6 = nI (pqs P) := by
      rw [(f3.1 20 rfl).1, q4]
      unfold pqs pss
      rw [if_neg hp]
    exact ⟨cP_fr (K := fun c => c == 26 || c == 31 || c == 32) ⟨rfl, rfl, rfl, rfl, rfl, rfl, rfl⟩ f3 (cP_fr (K := kLg) ⟨rfl, rfl, rfl, rfl, rfl, rfl, rfl⟩ q5 p1), cE_fr rfl f3 q1, fun _ => cC_fr rfl f3 q2, cL_fr rfl f3 q3, pn6, f3.2.1 (f2.2.1 hG)⟩
  · rw [f3.2.2, f2.2.2]; exact hl.1
  · rw [f3.2.2, f2.2.2]; exact hl.2
  · unfold kFi at hc
    rw [Bool.or_eq_false_iff, Bool.or_eq_false_iff, Bool.or_eq_false_iff, Bool.and_eq_false_iff, Bool.and_eq_false_iff, decide_eq_false_iff_not, decide_eq_false_iff_not, decide_eq_false_iff_not, decide_eq_false_iff_not, beq_eq_false_iff_ne, beq_eq_false_iff_ne] at hc
    rw [Bool.or_eq_false_iff, Bool.or_eq_false_iff, beq_eq_false_iff_ne, beq_eq_false_iff_ne, beq_eq_false_iff_ne]
    omega
end Fi
