
/-! ===== steps: bunch ===== -/
section S11
variable {S S' : zSt} {g h k : zS} {P : zPl} {N : Nat} {r : Nat → Nat}
/-- on the way to a row's bunch -/
def rbI (A : Nat → Nat → Bool) (N : Nat) (B : Nat → Nat) (b w : Nat) (B' : Nat → Nat) : Prop := B' w = b + 1 ∧ (∀ x, x < N → B x ≠ 0 → B' x = B x) ∧ ∀ x, x < N → B x = 0 → B' x = 0 ∨ (B' x = b + 1 ∧ Rch A N B w x)
theorem rbI_up {A : Nat → Nat → Bool} {B B' : Nat → Nat} {b w : Nat} (hB : ∀ x, x < N → B x ≤ b) (h : rbI A N B b w B') {a x : Nat} (ha : a < N) (hx : x < N) (h1 : B' a = b + 1) (h0 : B' x = 0) (hA : A a x = true) : rbI A N B b w (upA B' x (b + 1)) := by
  obtain ⟨q1, q2, q3⟩ := h
  have hxw : w ≠ x := fun e => by rw [e, h0] at q1; omega
  have hBx : B x = 0 := Decidable.byContradiction fun e => by have := q2 x hx e; omega
  have hBa : B a = 0 := Decidable.byContradiction fun e => by have := q2 a ha e; have := hB a ha; omega
  have hRa : Rch A N B w a := by
    rcases q3 a ha hBa with e | e
    · omega
    · exact e.2
  refine ⟨?_, fun y hy hb => ?_, fun y hy hb => ?_⟩
  · show (if w = x then _ else _) = _
    rw [if_neg hxw]; exact q1
  · show (if y = x then _ else _) = _
    rw [if_neg (fun e => hb (by rw [e]; exact hBx))]
    exact q2 y hy hb
  · show (if y = x then b + 1 else B' y) = 0 ∨ ((if y = x then b + 1 else B' y) = b + 1 ∧ _)
    by_cases e : y = x
    · rw [if_pos e, e]
      exact Or.inr ⟨rfl, fun T hT hs => hs a x (hRa T hT hs) hx hBx hA⟩
    · rw [if_neg e]
      exact q3 y hy hb
/-- one pass over all pairs, so far -/
def paI (A : Nat → Nat → Bool) (N : Nat) (B0 : Nat → Nat) (b a x : Nat) (fl : Int32) (B' : Nat → Nat) : Prop := (fl = 0 ∧ (∀ y, y < N → B' y = B0 y) ∧ ∀ a' x', a' < N → x' < N → (a' < a ∨ (a' = a ∧ x' < x)) → B0 a' = b + 1 → A a' x' = true → B0 x' ≠ 0) ∨ (fl = 1 ∧ cnt (fun y => B' y == 0) N < cnt (fun y => B0 y == 0) N)
/-- the reference's bunches -/
def bnS (N : Nat) (g0 : zS) (B' : Nat → Nat) (s : zS) : Prop := (∀ x, x < N → s.1 70 x = nJ (B' x)) ∧ sc g0 s ∧ s.1 42 0 = 0
theorem bnS_up {B' : Nat → Nat} {s : zS} (h : bnS N g B' s) {x b : Nat} : bnS N g (upA B' x (b + 1)) (zi s 70 x (nI b)) := by
  refine ⟨fun y hy => ?_, sc_tr h.2.1 (sc_zi rfl _ _), by rw [zi_else _ _ (by omega)]; exact h.2.2⟩
  show _ = nJ (if y = x then b + 1 else B' y)
  by_cases e : y = x
  · rw [e, zi_at, if_pos rfl, nJ_s]
  · rw [zi_else _ _ (by omega), if_neg e]; exact h.1 y hy
theorem cnt_up0 {B' : Nat → Nat} {x b : Nat} (hx : x < N) (h0 : B' x = 0) : cnt (fun y => upA B' x (b + 1) y == 0) N < cnt (fun y => B' y == 0) N := by
  have := cnt_upd (p := fun y => upA B' x (b + 1) y == 0) (p' := fun y => B' y == 0) (j := x) (by show ((if x = x then b + 1 else B' x) == 0) = false; rw [if_pos rfl]; rfl) (by show (B' x == 0) = true; rw [h0]; rfl) (fun i hi => by show (B' i == 0) = ((if i = x then b + 1 else B' i) == 0); rw [if_neg hi]) N hx
  omega
end S11
