
/-! ===== the reference: ways by a set ===== -/
section Mt
variable {P : zPl} {g : zS} {N : Nat} {r : Nat → Nat}
/-- a number is as a row outside of a set -/
def asB (P : zPl) (c S x : Nat) : Bool := alB (fun f => S.testBit f || rv c f == vo x f + 1) (pn P)
theorem m_isAs (hO : pOK P) (hM : mP P g) (hR : mR P N r g) {i x S : Nat} (hi : i < N) (hx : x < 3125) (hS : S < 2147483648) : nX11_isAs (nI i) (nI x) (nI S) g = some (if asB P (r i) S x then 1 else 0) := by
  have h5 := hO.1
  unfold nX11_isAs
  have key := wh_fst (step := wX11_isAs_3 (nI i) (nI x) (nI S) g) (fun f => !(S.testBit f || rv (r i) f == vo x f + 1)) (fun f => nI f) (pn P) (fun _ => (0 : Int32)) (1 : Int32) (fun f hf hp => by
    have hv := rv_lt (r i) f
    have hw := vo_lt x f
    dsimp only [wX11_isAs_3]
    rw [hM.1, if_neg (by rw [nN_le (by omega) (by omega)]; omega), m_has hS (by omega), Option.bind_some]
    cases hb : S.testBit f with
    | true => rw [if_neg (show ¬ (if true = true then (1 : Int32) else 0) = 0 by decide), nI_s]
    | false =>
      rw [if_pos (show (if false = true then (1 : Int32) else 0) = 0 by decide), m_of hR h5 hi hf, Option.bind_some, m_valueOf hM (by omega) (by omega), Option.bind_some]
      rw [hb] at hp
      have e : rv (r i) f = vo x f + 1 := by simpa using hp
      rw [if_pos (show nJ (rv (r i) f) = nI (vo x f) by rw [e, nJ_s]), nI_s]) (fun f hf hp => by
    have hv := rv_lt (r i) f
    have hw := vo_lt x f
    dsimp only [wX11_isAs_3]
    rw [hM.1, if_neg (by rw [nN_le (by omega) (by omega)]; omega), m_has hS (by omega), Option.bind_some]
    cases hb : S.testBit f with
    | true => rw [hb] at hp; simp at hp
    | false =>
      rw [if_pos (show (if false = true then (1 : Int32) else 0) = 0 by decide), m_of hR h5 hi hf, Option.bind_some, m_valueOf hM (by omega) (by omega), Option.bind_some]
      rw [hb] at hp
      have e : ¬ rv (r i) f = vo x f + 1 := by simpa using hp
      rw [if_neg (show ¬ nJ (rv (r i) f) = nI (vo x f) from fun q => e ((nJ_eq (by omega) (by omega)).mp (by rw [nJ_s]; exact q)))]
      rfl) (by
    dsimp only [wX11_isAs_3]
    rw [hM.1, if_pos (Int32.le_refl _)]
    rfl)
  rw [show (0 : Int32) = nI 0 from rfl, key]
  obtain ⟨a, b, c⟩ := fstB_spec (fun f => !(S.testBit f || rv (r i) f == vo x f + 1)) (pn P)
  by_cases q : fstB (fun f => !(S.testBit f || rv (r i) f == vo x f + 1)) (pn P) < pn P
  · have h1 := c q
    have h2 : asB P (r i) S x = false := by
      cases h3 : asB P (r i) S x with
      | false => rfl
      | true =>
        unfold asB at h3
        rw [alB_iff] at h3
        have h4 := h3 _ q
        rw [h4] at h1
        cases h1
    rw [if_pos q, h2]; rfl
  · have h2 : asB P (r i) S x = true := by
      unfold asB
      rw [alB_iff]
      intro f hf
      have h3 := b f (by omega)
      cases h4 : (S.testBit f || rv (r i) f == vo x f + 1) with
      | true => rfl
      | false => rw [h4] at h3; cases h3
    rw [if_neg q, h2]; rfl
/-- a number is a way's -/
def wyB (P : zPl) (c S x : Nat) : Bool := psF P x && asB P c S x
theorem wyB_way {c S x : Nat} (hO : pOK P) (h : wyB P c S x = true) : way P c S (vo x) ∧ isF5 P x = true := by
  have h5 := hO.1
  unfold wyB psF asB at h
  rw [Bool.and_eq_true, Bool.and_eq_true, alB_iff, beq_iff_eq] at h
  obtain ⟨⟨h1, h2⟩, h3⟩ := h
  have h1' := h1
  unfold isF5 at h1'
  rw [alB_iff] at h1'
  refine ⟨⟨fun f hf => ?_, fun f hf hS => ?_, ?_⟩, h1⟩
  · have h4 := of_decide_eq_true (h1' f (by omega))
    rw [show mq P f = pq P f from if_pos hf] at h4
    exact h4
  · have h4 := h3 f hf
    rw [hS, Bool.false_or] at h4
    exact beq_iff_eq.mp h4
  · unfold fsM at h2
    rw [h1, if_pos rfl] at h2
    exact h2
theorem way_wyB {c S : Nat} {a : Nat → Nat} (hO : pOK P) (w : way P c S a) : fno a (pn P) < 3125 ∧ wyB P c S (fno a (pn P)) = true ∧ ∀ f, f < pn P → vo (fno a (pn P)) f = a f := by
  have h5 := hO.1
  obtain ⟨v1, v2, v3⟩ := fno_form hO w.1
  obtain ⟨_, u2⟩ := vo_fno (a := a) h5 (fun f hf => by have := w.1 f hf; have := (hO.2.1 f hf).2.1; omega)
  have e : ∀ f, f < pn P → vo (fno a (pn P)) f = a f := fun f hf => by rw [u2 f (by omega), if_pos hf]
  refine ⟨v1, ?_, e⟩
  unfold wyB psF asB
  rw [v2, v3, w.2.2, Bool.and_eq_true, alB_iff]
  refine ⟨rfl, fun f hf => ?_⟩
  rw [e f hf]
  cases hS : S.testBit f with
  | true => rfl
  | false => rw [Bool.false_or, beq_iff_eq]; exact w.2.1 f hf hS
/-- how many numbers are ways' -/
def wyN (P : zPl) (c S : Nat) : Nat := if mSb c S (pn P) then cnt (wyB P c S) 3125 else 0
theorem m_miss (hO : pOK P) {c S : Nat} : nI (rmis c (pn P)) &&& (nI S ^^^ (-1 : Int32)) = 0 ↔ mSb c S (pn P) = true := by
  have h7 := p2n hO
  have h9 : rmis c (pn P) < 2 ^ pn P := bS_lt _ _
  have hle : rmis c (pn P) &&& (S ^^^ 4294967295) ≤ rmis c (pn P) := Nat.and_le_left
  rw [nI_m1, nI_xor, nI_and, nN_eq0 (by omega)]
  unfold mSb
  exact beq_iff_eq.symm
theorem m_waysOf (hO : pOK P) (hM : mP P g) (hF : mF P g) (hR : mR P N r g) {i S : Nat} (hi : i < N) (hS : S < 2147483648) : nX11_waysOf (nI i) (nI S) g = some (nI (wyN P (r i) S)) := by
  unfold nX11_waysOf wyN
  rw [m_missing hO hM hR hi, Option.bind_some]
  cases hm : mSb (r i) S (pn P) with
  | false => rw [if_neg (fun q => by rw [(m_miss hO).mp q] at hm; cases hm), if_neg (by decide)]; rfl
  | true =>
    rw [if_pos ((m_miss hO).mpr hm), if_pos rfl]
    refine wh_cnt _ 3125 (fun x a hx => ?_) (fun a => ?_)
    · dsimp only [wX11_waysOf_19]
      rw [if_neg (by rw [show (3125 : Int32) = nI 3125 from rfl, nN_le (by omega) (by omega)]; omega), m_passes hO hF hx, Option.bind_some, nI_s]
      cases h1 : psF P x with
      | false =>
        have hh : wyB P (r i) S x = false := by unfold wyB; rw [h1, Bool.false_and]
        rw [if_pos (show (if false = true then (1 : Int32) else 0) = 0 by decide), hh, Int32.add_zero]; rfl
      | true =>
        have hh : wyB P (r i) S x = asB P (r i) S x := by unfold wyB; rw [h1, Bool.true_and]
        rw [if_neg (show ¬ (if true = true then (1 : Int32) else 0) = 0 by decide), m_isAs hO hM hR hi hx hS, Option.bind_some, hh]
        cases asB P (r i) S x with
        | false => rw [if_pos (show (if false = true then (1 : Int32) else 0) = 0 by decide), Int32.add_zero]; rfl
        | true => rw [if_neg (show ¬ (if true = true then (1 : Int32) else 0) = 0 by decide), nI_s]; rfl
    · dsimp only [wX11_waysOf_19]
      rw [if_pos (show (3125 : Int32) ≤ nI 3125 from Int32.le_refl _)]
      rfl
theorem cnt_pos {p : Nat → Bool} : ∀ n, 0 < cnt p n ↔ ∃ i, i < n ∧ p i = true := by
  intro n
  induction n with
  | zero => exact ⟨fun h => absurd h (Nat.lt_irrefl 0), fun ⟨i, hi, _⟩ => absurd hi (Nat.not_lt_zero i)⟩
  | succ n ih =>
    rw [cnt_s]
    constructor
    · intro h
      cases hp : p n with
      | true => exact ⟨n, by omega, hp⟩
      | false =>
        rw [hp, if_neg (by decide)] at h
        obtain ⟨i, hi, k⟩ := ih.mp h
        exact ⟨i, by omega, k⟩
    · rintro ⟨i, hi, h⟩
      by_cases q : i = n
      · subst q; rw [h, if_pos rfl]; omega
      · have := ih.mpr ⟨i, by omega, h⟩
        split <;> omega
/-- the reference mends by a set as the class does -/
theorem wyN_cmd (hO : pOK P) {c S : Nat} (hc : rOK P c) : 0 < wyN P c S ↔ cmd P c S = true := by
  unfold wyN
  rw [cmd_iff hO hc]
  constructor
  · intro h
    cases hm : mSb c S (pn P) with
    | false => rw [hm, if_neg (by decide)] at h; omega
    | true =>
      rw [hm, if_pos rfl, cnt_pos] at h
      obtain ⟨x, _, hx⟩ := h
      exact ⟨_, (wyB_way hO hx).1⟩
  · rintro ⟨a, w⟩
    obtain ⟨v1, v2, _⟩ := way_wyB hO w
    have hm : mSb c S (pn P) = true := by
      rw [mSb_iff hO.1]
      intro f hf h
      cases hS : S.testBit f with
      | true => rfl
      | false => rw [w.2.1 f hf hS] at h; omega
    rw [hm, if_pos rfl, cnt_pos]
    exact ⟨_, v1, v2⟩
end Mt
