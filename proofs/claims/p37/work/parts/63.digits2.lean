
/-! ===== counting forms field by field ===== -/
section Di
/-- a sum over the values of the fields from f on, r of them, of those that c lets in -/
def nst (c : Nat → Nat → Bool) (m : Nat → Nat) (t : (Nat → Nat) → Nat) : Nat → Nat → (Nat → Nat) → Nat
  | 0, _, a => t a
  | r + 1, f, a => sm (fun v => if c f v then nst c m t r (f + 1) (upA a f v) else 0) (m f)
theorem nst_s (c : Nat → Nat → Bool) (m : Nat → Nat) (t : (Nat → Nat) → Nat) (r f : Nat) (a : Nat → Nat) : nst c m t (r + 1) f a = sm (fun v => if c f v then nst c m t r (f + 1) (upA a f v) else 0) (m f) := rfl
theorem vo_add {r x i g : Nat} (hr : r < 5) (hx : x % 5 ^ (r + 1) = 0) (hi : i < 5) {y : Nat} (hy : y < 5 ^ r) (hg : g + r < 5) : vo (x + (i * 5 ^ r + y)) g = if g + r = 4 then i else vo x g := by
  have hc : r = 0 ∨ r = 1 ∨ r = 2 ∨ r = 3 ∨ r = 4 := by omega
  have hc2 : g = 0 ∨ g = 1 ∨ g = 2 ∨ g = 3 ∨ g = 4 := by omega
  unfold vo
  rcases hc with rfl | rfl | rfl | rfl | rfl
  · have h1 : x % 5 = 0 := hx
    have h2 : y < 1 := hy
    rcases hc2 with rfl | rfl | rfl | rfl | rfl
    · show (x + (i * 1 + y)) / 625 % 5 = x / 625 % 5
      omega
    · show (x + (i * 1 + y)) / 125 % 5 = x / 125 % 5
      omega
    · show (x + (i * 1 + y)) / 25 % 5 = x / 25 % 5
      omega
    · show (x + (i * 1 + y)) / 5 % 5 = x / 5 % 5
      omega
    · show (x + (i * 1 + y)) / 1 % 5 = i
      omega
  · have h1 : x % 25 = 0 := hx
    have h2 : y < 5 := hy
    rcases hc2 with rfl | rfl | rfl | rfl | rfl
    · show (x + (i * 5 + y)) / 625 % 5 = x / 625 % 5
      omega
    · show (x + (i * 5 + y)) / 125 % 5 = x / 125 % 5
      omega
    · show (x + (i * 5 + y)) / 25 % 5 = x / 25 % 5
      omega
    · show (x + (i * 5 + y)) / 5 % 5 = i
      omega
    · omega
  · have h1 : x % 125 = 0 := hx
    have h2 : y < 25 := hy
    rcases hc2 with rfl | rfl | rfl | rfl | rfl
    · show (x + (i * 25 + y)) / 625 % 5 = x / 625 % 5
      omega
    · show (x + (i * 25 + y)) / 125 % 5 = x / 125 % 5
      omega
    · show (x + (i * 25 + y)) / 25 % 5 = i
      omega
    · omega
    · omega
  · have h1 : x % 625 = 0 := hx
    have h2 : y < 125 := hy
    rcases hc2 with rfl | rfl | rfl | rfl | rfl
    · show (x + (i * 125 + y)) / 625 % 5 = x / 625 % 5
      omega
    · show (x + (i * 125 + y)) / 125 % 5 = i
      omega
    · omega
    · omega
    · omega
  · have h1 : x % 3125 = 0 := hx
    have h2 : y < 625 := hy
    rcases hc2 with rfl | rfl | rfl | rfl | rfl
    · show (x + (i * 625 + y)) / 625 % 5 = i
      omega
    · omega
    · omega
    · omega
    · omega
theorem sm_cut {f : Nat → Nat} {m : Nat} : ∀ {n}, m ≤ n → (∀ i, m ≤ i → i < n → f i = 0) → sm f n = sm f m := by
  intro n
  induction n with
  | zero => intro h _; rw [Nat.le_zero.mp h]
  | succ n ih =>
    intro h q
    by_cases c : m = n + 1
    · rw [c]
    · rw [sm_s, q n (by omega) (by omega), Nat.add_zero]
      exact ih (by omega) (fun i h1 h2 => q i h1 (by omega))
theorem cnt_zero {p : Nat → Bool} {n : Nat} (h : ∀ i, i < n → p i = false) : cnt p n = 0 := by
  have := cnt_none (p := p) (A := 0) (C := n) (Nat.zero_le n) (fun Y _ hY => h Y hY)
  rw [this]
  rfl
theorem nst_cnt {q : (Nat → Nat) → Bool} {n : Nat} (hn : n ≤ 5) {c : Nat → Nat → Bool} {m : Nat → Nat} {t : (Nat → Nat) → Nat} (hm : ∀ f, f < n → m f ≤ 5) (hq : ∀ x, q (vo x) = true → (∀ f, f < n → vo x f < m f ∧ c f (vo x f) = true) ∧ ∀ f, n ≤ f → f < 5 → vo x f = 0) (ht : ∀ x, (∀ f, f < n → vo x f < m f ∧ c f (vo x f) = true) → (∀ f, n ≤ f → f < 5 → vo x f = 0) → (if q (vo x) then 1 else 0) = t (vo x)) (ht2 : ∀ a b : Nat → Nat, (∀ f, f < n → a f = b f) → t a = t b) : ∀ r f x a, f + r = 5 → x % 5 ^ r = 0 → (∀ g, g < f → g < n → vo x g < m g ∧ c g (vo x g) = true) → (∀ g, g < f → n ≤ g → vo x g = 0) → (∀ g, g < f → a g = vo x g) → cnt (fun y => q (vo (x + y))) (5 ^ r) = nst c m t (n - f) f a := by
  intro r
  induction r with
  | zero =>
    intro f x a hf _ h1 h2 h3
    rw [show n - f = 0 by omega]
    show cnt (fun y => q (vo (x + y))) 1 = t a
    rw [ht2 a (vo x) (fun g hg => h3 g (by omega)), ← ht x (fun g hg => h1 g (by omega) hg) (fun g hg h5 => h2 g (by omega) hg)]
    rw [cnt_s]
    show (if q (vo (x + 0)) then 0 + 1 else 0) = _
    rw [Nat.add_zero]
  | succ r ih =>
    intro f x a hf hx h1 h2 h3
    rw [Nat.pow_succ, Nat.mul_comm (5 ^ r) 5, cnt_mul]
    have hpos : 0 < 5 ^ r := Nat.pow_pos (by omega)
    have hdig : ∀ i, i < 5 → ∀ y, y < 5 ^ r → ∀ g, g + r < 5 → vo (x + (i * 5 ^ r + y)) g = if g = f then i else vo x g := fun i hi y hy g hg => by
      rw [vo_add (by omega) hx hi hy hg]
      by_cases k : g = f
      · rw [if_pos k, if_pos (by omega)]
      · rw [if_neg k, if_neg (by omega)]
    have hmod : ∀ i, (x + i * 5 ^ r) % 5 ^ r = 0 := fun i => by
      rw [Nat.add_mul_mod_self_right]
      have h5 : 5 ^ r ∣ x := Nat.dvd_trans (Nat.pow_dvd_pow 5 (Nat.le_succ r)) (Nat.dvd_of_mod_eq_zero hx)
      exact Nat.mod_eq_zero_of_dvd h5
    have hstep : ∀ i, i < 5 → (if f < n then i < m f ∧ c f i = true else i = 0) → cnt (fun y => q (vo (x + (i * 5 ^ r + y)))) (5 ^ r) = nst c m t (n - (f + 1)) (f + 1) (upA a f i) := fun i hi hok => by
      have e : (fun y => q (vo (x + (i * 5 ^ r + y)))) = fun y => q (vo (x + i * 5 ^ r + y)) := funext fun y => by rw [Nat.add_assoc]
      rw [e]
      have hd0 : ∀ g, g < f + 1 → vo (x + i * 5 ^ r) g = if g = f then i else vo x g := fun g hg => by
        have := hdig i hi 0 hpos g (by omega)
        rw [Nat.add_zero] at this
        exact this
      refine ih (f + 1) (x + i * 5 ^ r) (upA a f i) (by omega) (hmod i) (fun g hg hgn => ?_) (fun g hg hgn => ?_) (fun g hg => ?_)
      · rw [hd0 g hg]
        by_cases k : g = f
        · rw [if_pos k, k]
          rw [if_pos (by omega)] at hok
          exact hok
        · rw [if_neg k]; exact h1 g (by omega) hgn
      · rw [hd0 g hg]
        by_cases k : g = f
        · rw [if_pos k]
          rw [if_neg (by omega)] at hok
          exact hok
        · rw [if_neg k]; exact h2 g (by omega) hgn
      · rw [hd0 g hg]
        unfold upA
        by_cases k : g = f
        · rw [if_pos k, if_pos k]
        · rw [if_neg k, if_neg k]; exact h3 g (by omega)
    have hno : ∀ i, i < 5 → ¬ (if f < n then i < m f ∧ c f i = true else i = 0) → cnt (fun y => q (vo (x + (i * 5 ^ r + y)))) (5 ^ r) = 0 := fun i hi hnok => cnt_zero (fun y hy => by
      cases hqv : q (vo (x + (i * 5 ^ r + y))) with
      | false => rfl
      | true =>
        exfalso
        obtain ⟨k1, k2⟩ := hq _ hqv
        have hd := hdig i hi y hy f (by omega)
        rw [if_pos rfl] at hd
        by_cases k : f < n
        · rw [if_pos k] at hnok
          have := k1 f k
          rw [hd] at this
          exact hnok this
        · rw [if_neg k] at hnok
          have := k2 f (by omega) (by omega)
          rw [hd] at this
          exact hnok this)
    by_cases k : f < n
    · rw [show n - f = n - (f + 1) + 1 by omega, nst_s]
      rw [sm_congr (h := fun v => if v < m f then (if c f v then nst c m t (n - (f + 1)) (f + 1) (upA a f v) else 0) else 0) 5 (fun i hi => by
        by_cases k2 : i < m f ∧ c f i = true
        · rw [hstep i hi (by rw [if_pos k]; exact k2), if_pos k2.1, if_pos k2.2]
        · rw [hno i hi (by rw [if_pos k]; exact k2)]
          by_cases k3 : i < m f
          · rw [if_pos k3, if_neg (fun k4 => k2 ⟨k3, k4⟩)]
          · rw [if_neg k3])]
      rw [sm_cut (hm f k) (fun i h _ => by rw [if_neg (by omega)])]
      exact sm_congr _ (fun i hi => by rw [if_pos hi])
    · rw [show n - f = 0 by omega]
      rw [sm_one 5 (k := 0) (by omega) (fun i hi h0 => hno i hi (by rw [if_neg k]; exact h0))]
      rw [hstep 0 (by omega) (by rw [if_neg k]), show n - (f + 1) = 0 by omega]
      show t (upA a f 0) = t a
      exact ht2 _ _ (fun g hg => by unfold upA; rw [if_neg (by omega)])
/-- how many numbers have it -/
theorem nst_all {q : (Nat → Nat) → Bool} {n : Nat} (hn : n ≤ 5) {c : Nat → Nat → Bool} {m : Nat → Nat} {t : (Nat → Nat) → Nat} (hm : ∀ f, f < n → m f ≤ 5) (hq : ∀ x, q (vo x) = true → (∀ f, f < n → vo x f < m f ∧ c f (vo x f) = true) ∧ ∀ f, n ≤ f → f < 5 → vo x f = 0) (ht : ∀ x, (∀ f, f < n → vo x f < m f ∧ c f (vo x f) = true) → (∀ f, n ≤ f → f < 5 → vo x f = 0) → (if q (vo x) then 1 else 0) = t (vo x)) (ht2 : ∀ a b : Nat → Nat, (∀ f, f < n → a f = b f) → t a = t b) : cnt (fun x => q (vo x)) 3125 = nst c m t n 0 (fun _ => 0) := by
  have h := nst_cnt hn hm hq ht ht2 5 0 0 (fun _ => 0) rfl rfl (fun g hg => absurd hg (Nat.not_lt_zero g)) (fun g hg => absurd hg (Nat.not_lt_zero g)) (fun g hg => absurd hg (Nat.not_lt_zero g))
  rw [Nat.sub_zero] at h
  rw [← h]
  exact cnt_congr 3125 (fun x _ => by rw [Nat.zero_add])
theorem nst_congr {c : Nat → Nat → Bool} {m : Nat → Nat} {t : (Nat → Nat) → Nat} : ∀ r f a b, (∀ x y : Nat → Nat, (∀ g, g < f + r → x g = y g) → t x = t y) → (∀ g, g < f → a g = b g) → nst c m t r f a = nst c m t r f b := by
  intro r
  induction r with
  | zero => intro f a b ht h; exact ht a b h
  | succ r ih =>
    intro f a b ht h
    rw [nst_s, nst_s]
    refine sm_congr _ (fun v _ => ?_)
    rw [ih (f + 1) (upA a f v) (upA b f v) (fun x y k => ht x y (fun g hg => k g (by omega))) (fun g hg => by
      unfold upA
      by_cases q : g = f
      · rw [if_pos q, if_pos q]
      · rw [if_neg q, if_neg q]; exact h g (by omega))]
end Di
