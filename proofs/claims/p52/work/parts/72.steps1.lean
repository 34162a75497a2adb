
/-! ===== steps: queries of rows ===== -/
section S1
variable {g h : zS}
theorem zel_i {V R : Type} (v : V) (f : V → Option R) (e : String → Option R) : zel (.inl v) f e = f v := rfl
theorem zel_e {V R : Type} (v : String) (f : V → Option R) (e : String → Option R) : zel (.inr v) f e = e v := rfl
theorem cQb_l {X : zS → Option (Int32 ⊕ String)} {E : String → zS → Option (Int32 × zS)} {b : Bool} (q : X g = some (.inl (if b then 1 else 0))) : cQb (fun g => (X g).bind fun v => zel v (fun w => if w = 0 then (some ((0 : Int32), (zl g 72 (0 : Int32).toNatClampNeg (0 : Int64)))) else (some ((0 : Int32), (zl g 72 (0 : Int32).toNatClampNeg (1 : Int64))))) (fun e => E e g)) g 0 b := by
  cases b with
  | true => exact ⟨zl g 72 (0 : Int32).toNatClampNeg 1, by dsimp only; rw [q, Option.bind_some, zel_i, if_neg (by decide)], kQN_zl, fun _ => zl_at _ _ _ _⟩
  | false => exact ⟨zl g 72 (0 : Int32).toNatClampNeg 0, by dsimp only; rw [q, Option.bind_some, zel_i, if_pos (by decide)], kQN_zl, fun _ => zl_at _ _ _ _⟩
theorem cQb_r {X : zS → Option (Int32 ⊕ String)} {E : String → zS → Option (Int32 × zS)} {e : String} {cd : Int32} {b : Bool} (q : X g = some (.inr e)) (hE : E e g = some (cd, g)) (hcd : cd ≠ 0) : cQb (fun g => (X g).bind fun v => zel v (fun w => if w = 0 then (some ((0 : Int32), (zl g 72 (0 : Int32).toNatClampNeg (0 : Int64)))) else (some ((0 : Int32), (zl g 72 (0 : Int32).toNatClampNeg (1 : Int64))))) (fun e => E e g)) g cd b := by
  refine ⟨g, by dsimp only; rw [q, Option.bind_some]; exact hE, fr_rfl _ _, fun k => absurd k hcd⟩
theorem znb_b (b : Bool) : znb (if b then 1 else 0) = true := by cases b <;> rfl
theorem kT_Q : ∀ c, (kQ c && kN c) = false → kT c = false := fun c hc => by
  cases q : kT c with
  | false => rfl
  | true =>
    unfold kT at q
    rw [Bool.or_eq_true, beq_iff_eq, beq_iff_eq] at q
    rcases q with rfl | rfl <;> cases hc
end S1
