
/-! ===== frames; loops that change the state; sums ===== -/
/-- only the cells of K change, and not the row that grows -/
def fr (K : Nat → Bool) (g h : zS) : Prop := (∀ c, K c = false → h.1 c = g.1 c ∧ h.2.1 c = g.2.1 c) ∧ (g.2.2.1 ≤ 1 → h.2.2.1 ≤ 1) ∧ h.2.2.2 = g.2.2.2
theorem fr_rfl (K : Nat → Bool) (g : zS) : fr K g g := ⟨fun _ _ => ⟨rfl, rfl⟩, id, rfl⟩
theorem fr_tr {K : Nat → Bool} {g h k : zS} (a : fr K g h) (b : fr K h k) : fr K g k := ⟨fun c hc => ⟨(b.1 c hc).1.trans (a.1 c hc).1, (b.1 c hc).2.trans (a.1 c hc).2⟩, fun q => b.2.1 (a.2.1 q), b.2.2.trans a.2.2⟩
theorem fr_le {K L : Nat → Bool} (q : ∀ c, L c = false → K c = false) {g h : zS} (a : fr K g h) : fr L g h := ⟨fun c hc => a.1 c (q c hc), a.2⟩
theorem fr_zi {K : Nat → Bool} {c : Nat} (h : K c = true) (g : zS) (k : Nat) (x : Int32) : fr K g (zi g c k x) := ⟨fun d hd => ⟨by
    have : d ≠ c := fun q => by rw [q, h] at hd; cases hd
    funext i
    show (if d = c ∧ i = k then x else g.1 d i) = g.1 d i
    rw [if_neg (fun q => this q.1)], rfl⟩, id, rfl⟩
theorem fr_zl {K : Nat → Bool} {c : Nat} (h : K c = true) (g : zS) (k : Nat) (x : Int64) : fr K g (zl g c k x) := ⟨fun d hd => ⟨rfl, by
    have : d ≠ c := fun q => by rw [q, h] at hd; cases hd
    funext i
    show (if d = c ∧ i = k then x else g.2.1 d i) = g.2.1 d i
    rw [if_neg (fun q => this q.1)]⟩, id, rfl⟩
theorem fr_zir {K : Nat → Bool} {c : Nat} (h : K c = true) (g : zS) (f : Nat → Int32) : fr K g (zir g c f) := ⟨fun d hd => ⟨by
    have : d ≠ c := fun q => by rw [q, h] at hd; cases hd
    show (if d = c then f else g.1 d) = g.1 d
    rw [if_neg this], rfl⟩, id, rfl⟩
theorem fr_zsw {K : Nat → Bool} (g : zS) : fr K g (zsw g) := ⟨fun _ _ => ⟨rfl, rfl⟩, fun _ => Nat.sub_le 1 _, rfl⟩
theorem zi_at (g : zS) (c k : Nat) (x : Int32) : (zi g c k x).1 c k = x := if_pos ⟨rfl, rfl⟩
theorem zi_else (g : zS) {c k d i : Nat} (x : Int32) (h : ¬ (d = c ∧ i = k)) : (zi g c k x).1 d i = g.1 d i := if_neg h
theorem zi_cell (g : zS) {c k d : Nat} (x : Int32) (h : d ≠ c) : (zi g c k x).1 d = g.1 d := funext fun _ => if_neg (fun q => h q.1)
theorem zl_at (g : zS) (c k : Nat) (x : Int64) : (zl g c k x).2.1 c k = x := if_pos ⟨rfl, rfl⟩
theorem zl_else (g : zS) {c k d i : Nat} (x : Int64) (h : ¬ (d = c ∧ i = k)) : (zl g c k x).2.1 d i = g.2.1 d i := if_neg h
theorem zi_long (g : zS) (c k : Nat) (x : Int32) : (zi g c k x).2 = g.2 := rfl
theorem zl_int (g : zS) (c k : Nat) (x : Int64) : (zl g c k x).1 = g.1 := rfl
theorem zsp_zi (g : zS) (c k : Nat) (x : Int32) (s : Nat) : zsp (zi g c k x) s = zsp g s := rfl
theorem zsp_zl (g : zS) (c k : Nat) (x : Int64) (s : Nat) : zsp (zl g c k x) s = zsp g s := rfl
/-- the places of a cell below n hold these numbers -/
theorem cP_fr {P : zPl} {K : Nat → Bool} {g h : zS} (hK : K 3 = false ∧ K 4 = false ∧ K 5 = false ∧ K 6 = false ∧ K 7 = false ∧ K 8 = false ∧ K 9 = false) (a : fr K g h) (p : cP P g) : cP P h := by
  unfold cP at p ⊢
  rw [(a.1 3 hK.1).1, (a.1 4 hK.2.1).1, (a.1 5 hK.2.2.1).1, (a.1 6 hK.2.2.2.1).1, (a.1 7 hK.2.2.2.2.1).1, (a.1 8 hK.2.2.2.2.2.1).1, (a.1 9 hK.2.2.2.2.2.2).1]
  exact p
theorem cE_fr {P : zPl} {K : Nat → Bool} {g h : zS} (hK : K 21 = false) (a : fr K g h) (p : cE P g) : cE P h := by
  unfold cE at p ⊢
  rw [(a.1 21 hK).1]
  exact p
theorem cC_fr {P : zPl} {K : Nat → Bool} {g h : zS} (hK : K 23 = false) (a : fr K g h) (p : cC P g) : cC P h := by
  unfold cC at p ⊢
  rw [(a.1 23 hK).2]
  exact p
theorem cL_fr {P : zPl} {K : Nat → Bool} {g h : zS} (hK : K 22 = false) (a : fr K g h) (p : cL P g) : cL P h := by
  unfold cL at p ⊢
  rw [(a.1 22 hK).1]
  exact p
/-- a loop that counts up -/
theorem wh_up {S R : Type} {step : S → Option (S ⊕ R)} (I : Nat → S → Prop) (Q : R → Prop) : ∀ (n : Nat), (∀ i s, i < n → I i s → ∃ s', step s = some (.inl s') ∧ I (i + 1) s') → (∀ s, I n s → ∃ r, step s = some (.inr r) ∧ Q r) → ∀ {s : S}, I 0 s → ∃ r, wh step s = some r ∧ Q r := by
  intro n hs he
  have go : ∀ k, k ≤ n → ∀ s, I (n - k) s → ∃ r, wh step s = some r ∧ Q r := by
    intro k
    induction k with
    | zero =>
      intro _ s h
      obtain ⟨r, h1, h2⟩ := he s h
      exact ⟨r, wh_out h1, h2⟩
    | succ k ih =>
      intro hk s h
      obtain ⟨s', h1, h2⟩ := hs _ s (by omega) h
      rw [wh_in h1]
      exact ih (by omega) s' (by rw [show n - k = n - (k + 1) + 1 by omega]; exact h2)
  intro s h
  exact go n (Nat.le_refl n) s (by rw [Nat.sub_self]; exact h)
/-- sums -/
def sm (f : Nat → Nat) (n : Nat) : Nat := foN (fun i a => a + f i) n 0
theorem sm_s (f : Nat → Nat) (n : Nat) : sm f (n + 1) = sm f n + f n := rfl
theorem sm_0 (f : Nat → Nat) : sm f 0 = 0 := rfl
theorem sm_congr {f h : Nat → Nat} : ∀ n, (∀ i, i < n → f i = h i) → sm f n = sm h n := by
  intro n
  induction n with
  | zero => intro _; rfl
  | succ n ih => intro q; rw [sm_s, sm_s, ih (fun i hi => q i (by omega)), q n (by omega)]
theorem sm_zero {f : Nat → Nat} (n : Nat) (h : ∀ i, i < n → f i = 0) : sm f n = 0 := by
  rw [sm_congr n h]
  clear h
  induction n with
  | zero => rfl
  | succ n ih => rw [sm_s, ih]
theorem sm_add (f h : Nat → Nat) : ∀ n, sm (fun i => f i + h i) n = sm f n + sm h n := by
  intro n
  induction n with
  | zero => rfl
  | succ n ih => rw [sm_s, sm_s, sm_s, ih]; omega
theorem sm_mul (f : Nat → Nat) (k : Nat) : ∀ n, sm (fun i => f i * k) n = sm f n * k := by
  intro n
  induction n with
  | zero => rw [sm_0, sm_0, Nat.zero_mul]
  | succ n ih => rw [sm_s, sm_s, ih, Nat.add_mul]
theorem sm_comm (f : Nat → Nat → Nat) (m : Nat) : ∀ n, sm (fun i => sm (f i) m) n = sm (fun j => sm (fun i => f i j) n) m := by
  intro n
  induction n with
  | zero => rw [sm_0]; exact (sm_zero m (fun _ _ => rfl)).symm
  | succ n ih => rw [sm_s, ih, ← sm_add]; rfl
theorem sm_one {f : Nat → Nat} {k : Nat} : ∀ n, k < n → (∀ i, i < n → i ≠ k → f i = 0) → sm f n = f k := by
  intro n
  induction n with
  | zero => intro h; omega
  | succ n ih =>
    intro hk h
    rw [sm_s]
    by_cases q : k = n
    · subst q
      rw [sm_zero k (fun i hi => h i (by omega) (by omega)), Nat.zero_add]
    · rw [ih (by omega) (fun i hi hik => h i (by omega) hik), h n (by omega) (fun e => q e.symm), Nat.add_zero]
theorem sm_le {f h : Nat → Nat} : ∀ n, (∀ i, i < n → f i ≤ h i) → sm f n ≤ sm h n := by
  intro n
  induction n with
  | zero => intro _; exact Nat.le_refl _
  | succ n ih => intro q; rw [sm_s, sm_s]; exact Nat.add_le_add (ih (fun i hi => q i (by omega))) (q n (by omega))
theorem sm_pos {f : Nat → Nat} : ∀ n, 0 < sm f n ↔ ∃ i, i < n ∧ 0 < f i := by
  intro n
  induction n with
  | zero => exact ⟨fun h => absurd h (Nat.lt_irrefl 0), fun ⟨i, hi, _⟩ => absurd hi (Nat.not_lt_zero i)⟩
  | succ n ih =>
    rw [sm_s]
    constructor
    · intro h
      by_cases q : 0 < sm f n
      · obtain ⟨i, hi, h1⟩ := ih.mp q
        exact ⟨i, by omega, h1⟩
      · exact ⟨n, by omega, by omega⟩
    · rintro ⟨i, hi, h⟩
      by_cases q : i = n
      · subst q; omega
      · have := ih.mpr ⟨i, by omega, h⟩
        omega
