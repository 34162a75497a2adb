
section Mu
variable {P : zPl} {g : zS} {N : Nat} {r : Nat → Nat}
theorem m_weightOf (hO : pOK P) (hM : mP P g) {S : Nat} (hS : S < 2147483648) : nX11_weightOf (nI S) g = some (nI (wSum P S (pn P))) := by
  have h5 := hO.1
  unfold nX11_weightOf
  refine wh_seq (fun f => (nI (wSum P S f), nI f)) (pn P) (fun f hf => ?_) ?_
  · dsimp only [wX11_weightOf_4]
    have e : wSum P S (f + 1) = if S.testBit f then wSum P S f + pw P f else wSum P S f := rfl
    rw [hM.1, if_neg (by rw [nN_le (by omega) (by omega)]; omega), m_has hS (by omega), Option.bind_some, nI_s, e]
    cases S.testBit f with
    | false => rw [if_pos (show (if false = true then (1 : Int32) else 0) = 0 by decide), Int32.add_zero, if_neg (by decide)]
    | true => rw [if_neg (show ¬ (if true = true then (1 : Int32) else 0) = 0 by decide), zchk_t (zin_nI (by omega) (by omega)), nI_cl (by omega), hM.2.2.2.2.1 f hf, nN_add, if_pos rfl]
  · dsimp only [wX11_weightOf_4]
    rw [hM.1, if_pos (Int32.le_refl _)]
    rfl
theorem m_bits {k : Nat} (hk : k < 64) : nX11_bits (nI k) = some (nI (pcn k)) := by
  have hd : ∀ k, k < 64 → k ≠ 0 → k &&& (k - 1) < k ∧ pcn k = 1 + pcn (k &&& (k - 1)) := by decide
  have go : ∀ n k, k ≤ n → k < 64 → ∀ a, wh wX11_bits_4 (nI a, nI k) = some (nI (a + pcn k)) := by
    intro n
    induction n with
    | zero =>
      intro k h1 h2 a
      have e : k = 0 := by omega
      subst e
      exact wh_out rfl
    | succ n ih =>
      intro k h1 h2 a
      by_cases c : k = 0
      · subst c
        exact wh_out rfl
      · obtain ⟨d1, d2⟩ := hd k h2 c
        have hs : wX11_bits_4 (nI a, nI k) = some (.inl (nI (a + 1), nI (k &&& (k - 1)))) := by
          dsimp only [wX11_bits_4]
          rw [if_neg (fun q => c ((nN_eq0 (by omega)).mp q)), nI_s, show nI k - (1 : Int32) = nI (k - 1) from nI_sub (a := k) (b := 1) (by omega), nI_and]
        rw [wh_in hs, ih _ (by omega) (by omega), d2, Nat.add_assoc]
  unfold nX11_bits
  have h := go k k (Nat.le_refl k) hk 0
  rw [Nat.zero_add] at h
  exact h
/-- the values that ways below n have -/
def vlN (P : zPl) (c S f n : Nat) : Nat := foN (fun x a => if wyB P c S x then a ||| 2 ^ vo x f else a) n 0
theorem vlN_bit (P : zPl) (c S f v : Nat) : ∀ n, (vlN P c S f n).testBit v = true ↔ ∃ x, x < n ∧ wyB P c S x = true ∧ vo x f = v := by
  intro n
  induction n with
  | zero => exact ⟨fun h => (by rw [show vlN P c S f 0 = 0 from rfl, Nat.zero_testBit] at h; cases h), fun ⟨x, hx, _⟩ => absurd hx (Nat.not_lt_zero x)⟩
  | succ n ih =>
    have e : vlN P c S f (n + 1) = if wyB P c S n then vlN P c S f n ||| 2 ^ vo n f else vlN P c S f n := rfl
    rw [e]
    cases hw : wyB P c S n with
    | false =>
      rw [if_neg (by decide), ih]
      constructor
      · rintro ⟨x, h1, h2⟩
        exact ⟨x, by omega, h2⟩
      · rintro ⟨x, h1, h2, h3⟩
        refine ⟨x, ?_, h2, h3⟩
        by_cases q : x = n
        · subst q; rw [hw] at h2; cases h2
        · omega
    | true =>
      rw [if_pos rfl, Nat.testBit_or, Bool.or_eq_true, ih, Nat.testBit_two_pow, decide_eq_true_eq]
      constructor
      · rintro (⟨x, h1, h2⟩ | h)
        · exact ⟨x, by omega, h2⟩
        · exact ⟨n, by omega, hw, h⟩
      · rintro ⟨x, h1, h2, h3⟩
        by_cases q : x = n
        · subst q; exact Or.inr h3
        · exact Or.inl ⟨x, by omega, h2, h3⟩
theorem vlN_vIn (hO : pOK P) {c S f : Nat} (hc : rOK P c) (hf : f < pn P) : vlN P c S f 3125 = vIn P c S f := by
  apply Nat.eq_of_testBit_eq
  intro v
  rw [Bool.eq_iff_iff, vlN_bit, vIn_iff hO hc hf]
  constructor
  · rintro ⟨x, _, h2, h3⟩
    exact ⟨vo x, (wyB_way hO h2).1, h3⟩
  · rintro ⟨a, w, h3⟩
    obtain ⟨v1, v2, v3⟩ := way_wyB hO w
    exact ⟨_, v1, v2, by rw [v3 f hf]; exact h3⟩
theorem m_valuesBy (hO : pOK P) (hM : mP P g) (hF : mF P g) (hR : mR P N r g) {i S f : Nat} (hi : i < N) (hS : S < 2147483648) (hf : f < pn P) : nX11_valuesBy (nI i) (nI S) (nI f) g = some (nI (vIn P (r i) S f)) := by
  have h5 := hO.1
  have hc := (hR.2.2 i hi).2
  unfold nX11_valuesBy
  cases hm : mSb (r i) S (pn P) with
  | false =>
    have hv : vIn P (r i) S f = 0 := by
      unfold vIn cmd
      rw [hm, Bool.false_and, if_neg (by decide)]
    rw [hv]
    refine wh_out ?_
    dsimp only [wX11_valuesBy_6]
    rw [if_neg (by decide), m_missing hO hM hR hi, Option.bind_some, if_neg (fun q => by rw [(m_miss hO).mp q] at hm; cases hm)]
    rfl
  | true =>
    rw [← vlN_vIn hO hc hf]
    refine wh_seq (fun x => (nI (vlN P (r i) S f x), nI x)) 3125 (fun x hx => ?_) ?_
    · dsimp only [wX11_valuesBy_6]
      have hv := vo_lt x f
      have e : vlN P (r i) S f (x + 1) = if wyB P (r i) S x then vlN P (r i) S f x ||| 2 ^ vo x f else vlN P (r i) S f x := rfl
      rw [if_neg (by rw [show (3125 : Int32) = nI 3125 from rfl, nN_le (by omega) (by omega)]; omega), m_missing hO hM hR hi, Option.bind_some, if_pos ((m_miss hO).mpr hm), m_passes hO hF hx, Option.bind_some, nI_s, e]
      cases h1 : psF P x with
      | false =>
        have hh : wyB P (r i) S x = false := by unfold wyB; rw [h1, Bool.false_and]
        rw [if_pos (show (if false = true then (1 : Int32) else 0) = 0 by decide), hh, if_neg (by decide)]
      | true =>
        have hh : wyB P (r i) S x = asB P (r i) S x := by unfold wyB; rw [h1, Bool.true_and]
        rw [if_neg (show ¬ (if true = true then (1 : Int32) else 0) = 0 by decide), m_isAs hO hM hR hi hx hS, Option.bind_some, hh]
        cases asB P (r i) S x with
        | false => rw [if_pos (show (if false = true then (1 : Int32) else 0) = 0 by decide), if_neg (by decide)]
        | true => rw [if_neg (show ¬ (if true = true then (1 : Int32) else 0) = 0 by decide), m_valueOf hM (by omega) (by omega), Option.bind_some, nI_shl (by omega), nI_or, if_pos rfl]
    · dsimp only [wX11_valuesBy_6]
      rw [if_pos (show (3125 : Int32) ≤ nI 3125 from Int32.le_refl _)]
      rfl
end Mu
