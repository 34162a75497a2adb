
/-! ===== bunches ===== -/
theorem cnt_upd {p p' : Nat → Bool} {j : Nat} (h0 : p j = false) (h1 : p' j = true) (h2 : ∀ i, i ≠ j → p' i = p i) : ∀ n, j < n → cnt p' n = cnt p n + 1 := by
  intro n
  induction n with
  | zero => intro h; exact absurd h (Nat.not_lt_zero j)
  | succ n ih =>
    intro hj
    rw [cnt_s, cnt_s]
    by_cases q : j = n
    · subst q
      rw [h0, h1, if_pos rfl, if_neg (by decide), cnt_congr j (fun i hi => h2 i (by omega))]
    · rw [ih (by omega), h2 n (fun e => q e.symm)]
      split <;> rfl
theorem cnt_lt {p : Nat → Bool} {j n : Nat} (hj : j < n) (h0 : p j = false) : cnt p n < n := by
  have h := cnt_upd (p := p) (p' := fun i => i == j || p i) h0 (by simp) (fun i hi => by simp [hi]) n hj
  have := cnt_le (fun i => i == j || p i) n
  omega
section Bu
variable {P : zPl} {g : zS} {N : Nat} {r : Nat → Nat}
/-- two rows near each other -/
def adj (P : zPl) (r : Nat → Nat) (n : Int32) (a x : Nat) : Bool := decide (nI (far P (r a) (r x) 0 (pn P)) ≤ n)
/-- reached from a row over rows that stand in no bunch -/
def Rch (A : Nat → Nat → Bool) (N : Nat) (B : Nat → Nat) (w x : Nat) : Prop := ∀ S : Nat → Prop, S w → (∀ a y, S a → y < N → B y = 0 → A a y = true → S y) → S x
/-- B' is B with a row's bunch -/
def flP (A : Nat → Nat → Bool) (N : Nat) (B : Nat → Nat) (b w : Nat) (B' : Nat → Nat) : Prop := B' w = b + 1 ∧ (∀ x, x < N → B x ≠ 0 → B' x = B x) ∧ (∀ x, x < N → B x = 0 → B' x = 0 ∨ (B' x = b + 1 ∧ Rch A N B w x)) ∧ ∀ a x, a < N → x < N → B' a = b + 1 → A a x = true → B' x ≠ 0
theorem flP_le {A : Nat → Nat → Bool} {B B' : Nat → Nat} {b w : Nat} (h : flP A N B b w B') (hw : w < N) (hB : ∀ x, x < N → B x ≤ b) {x : Nat} (hx : x < N) (h1 : B' x = b + 1) (S : Nat → Prop) (s1 : S w) (s2 : ∀ a y, S a → y < N → B y = 0 → A a y = true → S y) : S x := by
  by_cases q : B x = 0
  · rcases h.2.2.1 x hx q with e | e
    · omega
    · exact e.2 S s1 s2
  · have := h.2.1 x hx q
    have := hB x hx
    omega
theorem flP_sub {A : Nat → Nat → Bool} {B B' B2 : Nat → Nat} {b w : Nat} (h : flP A N B b w B') (k : flP A N B b w B2) (hw : w < N) (hB : ∀ x, x < N → B x ≤ b) {x : Nat} (hx : x < N) (h1 : B' x = b + 1) : B2 x = b + 1 := by
  refine (flP_le h hw hB hx h1 (fun y => y < N ∧ B2 y = b + 1) ⟨hw, k.1⟩ (fun a y ha hy h0 hA => ⟨hy, ?_⟩)).2
  have := k.2.2.2 a y ha.1 hy ha.2 hA
  rcases k.2.2.1 y hy h0 with e | e
  · exact absurd e this
  · exact e.1
theorem flP_uniq {A : Nat → Nat → Bool} {B B' B2 : Nat → Nat} {b w : Nat} (h : flP A N B b w B') (k : flP A N B b w B2) (hw : w < N) (hB : ∀ x, x < N → B x ≤ b) : ∀ x, x < N → B' x = B2 x := by
  intro x hx
  by_cases q : B x = 0
  · rcases h.2.2.1 x hx q with e | e
    · rcases k.2.2.1 x hx q with e2 | e2
      · rw [e, e2]
      · have := flP_sub k h hw hB hx e2.1
        omega
    · rw [e.1, flP_sub h k hw hB hx e.1]
  · rw [h.2.1 x hx q, k.2.1 x hx q]
def k389 (c : Nat) : Bool := c == 38 || c == 39
/-- what holds while a bunch is filled, behind the first k of the queue -/
def fbI (P : zPl) (r : Nat → Nat) (N : Nat) (n : Int32) (g : zS) (B : Nat → Nat) (b w0 k w : Nat) (B' q : Nat → Nat) (st : zS) : Prop := w = cnt (fun x => B' x == b + 1) N ∧ (∀ i, i < w → q i < N ∧ B' (q i) = b + 1) ∧ (∀ x, x < N → B' x = b + 1 → ∃ i, i < w ∧ q i = x) ∧ B' w0 = b + 1 ∧ (∀ x, x < N → B x ≠ 0 → B' x = B x) ∧ (∀ x, x < N → B x = 0 → B' x = 0 ∨ (B' x = b + 1 ∧ Rch (adj P r n) N B w0 x)) ∧ (∀ i, i < k → ∀ x, x < N → adj P r n (q i) x = true → B' x ≠ 0) ∧ (∀ x, x < N → st.1 38 x = nJ (B' x)) ∧ (∀ i, i < w → st.1 39 i = nI (q i)) ∧ fr k389 g st
end Bu
