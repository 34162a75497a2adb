
/-! ===== the reference's scratch; its leastOf, forced ===== -/
/-- places that the reference writes on the way -/
def scB (c k : Nat) : Bool := (c == 42 && (k == 0 || k == 36 || k == 42)) || c == 60 || (decide (63 ≤ c) && decide (c ≤ 70))
def sc (g h : zS) : Prop := (∀ c k, scB c k = false → h.1 c k = g.1 c k) ∧ h.2 = g.2
section Sc
variable {P : zPl} {g h : zS} {N : Nat} {r : Nat → Nat}
theorem sc_rfl (g : zS) : sc g g := ⟨fun _ _ _ => rfl, rfl⟩
theorem sc_tr {g h k : zS} (a : sc g h) (b : sc h k) : sc g k := ⟨fun c i q => (b.1 c i q).trans (a.1 c i q), b.2.trans a.2⟩
theorem sc_zi {c k : Nat} (q : scB c k = true) (g : zS) (v : Int32) : sc g (zi g c k v) := ⟨fun d i hd => zi_else _ _ (fun e => by rw [e.1, e.2, q] at hd; cases hd), rfl⟩
theorem sc_zc {c : Nat} (q : ∀ k, scB c k = true) (g : zS) (k : Nat) (v : Int32) : sc g (zi g c k v) := sc_zi (q k) g v
theorem mP_sc (a : sc g h) (p : mP P g) : mP P h := by
  unfold mP at p ⊢
  rw [a.1 42 16 rfl, a.1 42 17 rfl, a.1 42 19 rfl]
  exact ⟨p.1, p.2.1, p.2.2.1, fun f hf => (a.1 51 f rfl).trans (p.2.2.2.1 f hf), fun f hf => (a.1 52 f rfl).trans (p.2.2.2.2.1 f hf), fun f hf => (a.1 53 f rfl).trans (p.2.2.2.2.2.1 f hf), fun e he f hf => (a.1 54 _ rfl).trans (p.2.2.2.2.2.2.1 e he f hf), fun f hf => (a.1 58 f rfl).trans (p.2.2.2.2.2.2.2 f hf)⟩
theorem mF_sc (a : sc g h) (p : mF P g) : mF P h := fun x hx => by rw [a.1 57 x rfl, a.1 56 x rfl]; exact p x hx
theorem mR_sc (a : sc g h) (p : mR P N r g) : mR P N r h := ⟨(a.1 42 18 rfl).trans p.1, p.2.1, fun k hk => ⟨fun f hf => (a.1 55 _ rfl).trans ((p.2.2 k hk).1 f hf), (p.2.2 k hk).2⟩⟩
/-- a loop that counts down to a place -/
theorem wh_kth {R : Type} {step : Int32 × Int32 → Option ((Int32 × Int32) ⊕ R)} (p : Nat → Bool) (N : Nat) (hN : N < 2147483648) (K : Int32) (A : Nat → R) (B : R) (h1 : ∀ i l, i < N → p i = false → step (l, nI i) = some (.inl (l, nI (i + 1)))) (h2 : ∀ i l, i < N → p i = true → step (l, nI i) = if l = 0 then some (.inr (A i)) else some (.inl (l + (-1 : Int32), nI (i + 1)))) (h3 : ∀ l, step (l, nI N) = some (.inr B)) : wh step (K, (0 : Int32)) = some (if fstB (fun i => p i && decide (nI (cnt p i) = K)) N < N then A (fstB (fun i => p i && decide (nI (cnt p i) = K)) N) else B) := by
  have hsub : ∀ i, (K - nI (cnt p i) = 0) ↔ nI (cnt p i) = K := fun i => by
    constructor
    · intro q
      have := congrArg (fun z => z + nI (cnt p i)) q
      rw [Int32.sub_add_cancel, Int32.zero_add] at this
      exact this.symm
    · intro q
      rw [q, Int32.sub_self]
  have key := wh_fst (step := step) (fun i => p i && decide (nI (cnt p i) = K)) (fun i => (K - nI (cnt p i), nI i)) N A B (fun i hi hp => by
    rw [cnt_s]
    cases hpi : p i with
    | false => rw [h1 i _ hi hpi, if_neg (by decide)]
    | true =>
      rw [hpi, Bool.true_and] at hp
      have e : ∀ x : Int32, K - x + (-1 : Int32) = K - (x + 1) := fun x => by
        rw [Int32.sub_eq_add_neg, Int32.sub_eq_add_neg, Int32.neg_add, Int32.add_assoc, Int32.sub_eq_add_neg]
      rw [h2 i _ hi hpi, if_neg (fun q => of_decide_eq_false hp ((hsub i).mp q)), if_pos rfl, ← nI_s (cnt p i), e]) (fun i hi hp => by
    rw [Bool.and_eq_true] at hp
    rw [h2 i _ hi hp.1, if_pos ((hsub i).mpr (of_decide_eq_true hp.2))]) (h3 _)
  have e0 : (K - nI (cnt p 0), nI 0) = (K, (0 : Int32)) := by
    show (K - nI 0, nI 0) = _
    rw [nN_0, Int32.sub_zero]
  rw [← e0]
  exact key
theorem kth_fst (p : Nat → Bool) {N : Nat} (hN : N < 2147483648) (K : Int32) : kth p N K = if fstB (fun i => p i && decide (nI (cnt p i) = K)) N < N then nI (fstB (fun i => p i && decide (nI (cnt p i) = K)) N) else -1 := by
  obtain ⟨a, b, c⟩ := fstB_spec (fun i => p i && decide (nI (cnt p i) = K)) N
  generalize fstB (fun i => p i && decide (nI (cnt p i) = K)) N = k at a b c
  by_cases q : k < N
  · rw [if_pos q]
    exact kth_some (c q) N hN q
  · rw [if_neg q]
    exact kth_none N (fun i hi => b i (by omega))
theorem nI_lt0 {k : Nat} {K : Int32} (hK : K < 0) (hk : k < 2147483648) : ¬ nI k = K := fun q => by
  rw [← q] at hK
  exact nI_nn hk hK
theorem fstB_none {p : Nat → Bool} {n : Nat} (h : ∀ i, i < n → p i = false) : ¬ fstB p n < n := by rw [fstB_n h]; exact Nat.lt_irrefl n
end Sc
