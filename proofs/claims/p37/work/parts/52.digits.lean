
/-! ===== counting numbers by their digits ===== -/
theorem cnt_add (p : Nat → Bool) (a : Nat) : ∀ b, cnt p (a + b) = cnt p a + cnt (fun y => p (a + y)) b := by
  intro b
  induction b with
  | zero => rfl
  | succ b ih =>
    rw [← Nat.add_assoc, cnt_s, cnt_s, ih]
    split
    · rw [Nat.add_assoc]
    · rfl
theorem cnt_mul (p : Nat → Bool) (b : Nat) : ∀ a, cnt p (a * b) = sm (fun i => cnt (fun y => p (i * b + y)) b) a := by
  intro a
  induction a with
  | zero => rw [Nat.zero_mul]; rfl
  | succ a ih => rw [Nat.add_mul, Nat.one_mul, cnt_add, ih, sm_s]
theorem vo_split {x0 f y v : Nat} (hf : f < 5) (hx : x0 % 5 ^ (5 - f) = 0) (hy : y < 5 ^ (4 - f)) (hv : v < 5) : vo (x0 + (v * 5 ^ (4 - f) + y)) f = v := by
  have hc : f = 0 ∨ f = 1 ∨ f = 2 ∨ f = 3 ∨ f = 4 := by omega
  unfold vo
  rcases hc with rfl | rfl | rfl | rfl | rfl
  · have h : x0 % 3125 = 0 := hx
    have h2 : y < 625 := hy
    show (x0 + (v * 625 + y)) / 625 % 5 = v
    omega
  · have h : x0 % 625 = 0 := hx
    have h2 : y < 125 := hy
    show (x0 + (v * 125 + y)) / 125 % 5 = v
    omega
  · have h : x0 % 125 = 0 := hx
    have h2 : y < 25 := hy
    show (x0 + (v * 25 + y)) / 25 % 5 = v
    omega
  · have h : x0 % 25 = 0 := hx
    have h2 : y < 5 := hy
    show (x0 + (v * 5 + y)) / 5 % 5 = v
    omega
  · have h : x0 % 5 = 0 := hx
    have h2 : y < 1 := hy
    show (x0 + (v * 1 + y)) / 1 % 5 = v
    omega
