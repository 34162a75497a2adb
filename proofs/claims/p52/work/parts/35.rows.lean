
/-! ===== rows; counting them ===== -/
section Ki
variable {P : zPl} {g : zS} {N : Nat} {r : Nat → Nat}
/-- the rows of the class -/
def rR (P : zPl) (N : Nat) (r : Nat → Nat) (g : zS) : Prop := g.1 31 1 = nI N ∧ N ≤ 40 ∧ ∀ k, k < N → g.1 32 k = nI (r k) ∧ rOK P (r k)
theorem rR_fr {K : Nat → Bool} {h : zS} (hK : K 31 = false ∧ K 32 = false) (a : fr K g h) (p : rR P N r g) : rR P N r h := by
  unfold rR at p ⊢
  rw [(a.1 31 hK.1).1, (a.1 32 hK.2).1]
  exact p
theorem wh_cnt {step : Int32 × Int32 → Option ((Int32 × Int32) ⊕ Int32)} (p : Nat → Bool) (N : Nat) (hs : ∀ i a, i < N → step (nI a, nI i) = some (.inl (nI (if p i then a + 1 else a), nI (i + 1)))) (he : ∀ a, step (nI a, nI N) = some (.inr (nI a))) : wh step ((0 : Int32), (0 : Int32)) = some (nI (cnt p N)) :=
  wh_seq (fun i => (nI (cnt p i), nI i)) N (fun i hi => hs i _ hi) (he _)
theorem e_countRight (hO : pOK P) (hP : cP P g) (hE : cE P g) (hR : rR P N r g) : nX4_countRight g = some (nI (cnt (fun k => rgt P (r k)) N)) := by
  obtain ⟨r1, r2, r3⟩ := hR
  unfold nX4_countRight
  refine wh_cnt _ N (fun i a hi => ?_) (fun a => ?_)
  · dsimp only [wX4_countRight_4]
    rw [r1, if_neg (by rw [nN_le (by omega) (by omega)]; omega), zchk_t (zin_nI (by omega) (by omega)), nI_cl (by omega), (r3 i hi).1, e_isRight hO hP hE (r3 i hi).2]
    dsimp only [Option.bind_some]
    cases rgt P (r i) with
    | false => rw [if_pos (show (if false = true then (1 : Int32) else 0) = 0 by decide), nI_s]; rfl
    | true => rw [if_neg (show ¬ (if true = true then (1 : Int32) else 0) = 0 by decide), nI_s, nI_s]; rfl
  · dsimp only [wX4_countRight_4]
    rw [r1, if_pos (Int32.le_refl _)]
    rfl
/-- a row is in a group; 0: any -/
def iG (P : zPl) (c G : Nat) : Bool := G == 0 || rv c (pg P) == G
/-- a row that passes, of a group, with a value -/
def hav (P : zPl) (G f v c : Nat) : Bool := rv c f == v + 1 && iG P c G && rgt P c
/-- the share of the rows that pass that have a value -/
def shr (P : zPl) (N : Nat) (r : Nat → Nat) (f v : Nat) : Nat := if cnt (fun k => rgt P (r k)) N = 0 then 0 else cnt (fun k => hav P 0 f v (r k)) N * 100 / cnt (fun k => rgt P (r k)) N
theorem nI_div {a b : Nat} (ha : a < 2147483648) (hb : b < 2147483648) : nI a / nI b = nI (a / b) := by
  have hne : nI a ≠ Int32.minValue := fun q => by
    have := congrArg Int32.toInt q
    rw [nI_int ha] at this
    have e : Int32.minValue.toInt = -2147483648 := by decide
    omega
  have h1 := Int32.toInt_div_of_ne_left (nI a) (nI b) hne
  refine Int32.toInt_inj.mp ?_
  rw [h1, nI_int ha, nI_int hb, nI_int (Nat.lt_of_le_of_lt (Nat.div_le_self a b) ha), Int.tdiv_eq_ediv_of_nonneg (by omega)]
  rfl
theorem shr_le (P : zPl) (N : Nat) (r : Nat → Nat) (f v : Nat) : shr P N r f v ≤ 100 := by
  unfold shr
  split
  · omega
  · next h =>
    have hle : cnt (fun k => hav P 0 f v (r k)) N ≤ cnt (fun k => rgt P (r k)) N := by
      have go : ∀ n, cnt (fun k => hav P 0 f v (r k)) n ≤ cnt (fun k => rgt P (r k)) n := by
        intro n
        induction n with
        | zero => exact Nat.le_refl _
        | succ n ih =>
          rw [cnt_s, cnt_s]
          cases h1 : rgt P (r n) with
          | true => split <;> simp <;> omega
          | false =>
            have : hav P 0 f v (r n) = false := by unfold hav; rw [h1, Bool.and_false]
            rw [this]
            simp
            exact ih
      exact go N
    refine Nat.div_le_of_le_mul ?_
    rw [Nat.mul_comm]
    omega
end Ki
