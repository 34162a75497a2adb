
/-! ===== the reference's boxes: which are greatest ===== -/
section Mg
variable {P : zPl} {g : zS} {D : Nat → Nat}
theorem dfB_fs (hO : pOK P) {a : Nat → Nat} (ha : ∀ f, f < 5 → a f < mq P f) : dfB P (fno a 5) = (fs P a != 0) := by
  have h5 := hO.1
  obtain ⟨_, v2⟩ := vo_fno (a := a) (Nat.le_refl 5) (fun f hf => Nat.lt_of_lt_of_le (ha f hf) (mq_le hO f).2)
  have e : ∀ f, f < 5 → vo (fno a 5) f = a f := fun f hf => by rw [v2 f hf, if_pos hf]
  have hi : isF5 P (fno a 5) = true := by
    unfold isF5
    rw [alB_iff]
    intro f hf
    rw [e f hf]
    exact decide_eq_true (ha f hf)
  unfold dfB fsM
  rw [hi, if_pos rfl, Bool.true_and, fs_congr P (fun f hf => e f (by omega))]
/-- a greatest box, by all five fields -/
def gM (P : zPl) (D : Nat → Nat) : Prop := (∀ f, f < 5 → D f ≠ 0 ∧ D f < 2 ^ mq P f) ∧ (∀ a, inB D 0 5 a → dfB P (fno a 5) = true) ∧ ∀ f, f < 5 → ∀ v, v < mq P f → (D f).testBit v = false → ∃ a : Nat → Nat, a f = v ∧ (∀ i, i < 5 → i ≠ f → (D i).testBit (a i) = true) ∧ dfB P (fno a 5) = false
theorem mq_in {f : Nat} (hf : f < pn P) : mq P f = pq P f := if_pos hf
theorem mq_out {f : Nat} (hf : pn P ≤ f) : mq P f = 1 := if_neg (by omega)
theorem bit_01 {v : Nat} : (1 : Nat).testBit v = true ↔ v = 0 := by
  rw [show (1 : Nat) = 2 ^ 0 from rfl, Nat.testBit_two_pow, decide_eq_true_eq]
  exact ⟨fun h => h.symm, fun h => h.symm⟩
theorem gK_gM (hO : pOK P) (X : Nat) : gK P X = true ↔ gM P (bk X) := by
  have h5 := hO.1
  rw [gK_t]
  constructor
  · rintro ⟨h0, h1, h2, h3, h4⟩
    have hs : ∀ f, f < 5 → bk X f ≠ 0 ∧ bk X f < 2 ^ mq P f := fun f hf => by
      by_cases q : f < pn P
      · rw [mq_in q]; exact h2 f q
      · rw [mq_out (by omega), h1 f (by omega) hf]; decide
    have hr : ∀ a : Nat → Nat, (∀ f, f < 5 → (bk X f).testBit (a f) = true) → ∀ f, f < 5 → a f < mq P f := fun a ha f hf => big_bit (hs f hf).2 (ha f hf)
    refine ⟨hs, fun a ha => ?_, fun f hf v hv hb => ?_⟩
    · rw [dfB_fs hO (hr a (fun f hf => ha f (Nat.zero_le f) hf))]
      have := h3 a (fun f h hf => ha f h (by omega))
      simpa using this
    · have hfn : f < pn P := by
        by_cases q : f < pn P
        · exact q
        · rw [mq_out (by omega)] at hv
          rw [h1 f (by omega) hf] at hb
          rw [show v = 0 by omega, bit_01.mpr rfl] at hb
          cases hb
      rw [mq_in hfn] at hv
      obtain ⟨a, a1, a2, a3⟩ := h4 f hfn v hv hb
      refine ⟨fun i => if i < pn P then a i else 0, by dsimp only; rw [if_pos hfn, a1], fun i hi hif => ?_, ?_⟩
      · dsimp only
        by_cases q : i < pn P
        · rw [if_pos q]; exact a2 i q hif
        · rw [if_neg q, h1 i (by omega) hi]; exact bit_01.mpr rfl
      · rw [dfB_fs hO (fun i hi => ?_), fs_congr P (b := a) (fun i hi => if_pos hi), a3]
        · rfl
        · by_cases q : i < pn P
          · rw [if_pos q, mq_in q]
            by_cases q2 : i = f
            · rw [q2, a1]; exact hv
            · exact big_bit (h2 i q).2 (a2 i q q2)
          · rw [if_neg q, mq_out (by omega)]; omega
  · rintro ⟨h2, h3, h4⟩
    have h1 : ∀ f, pn P ≤ f → f < 5 → bk X f = 1 := fun f hf hf5 => by
      have := h2 f hf5
      rw [mq_out hf] at this
      omega
    have hr : ∀ a : Nat → Nat, (∀ f, f < pn P → a f < pq P f) → ∀ f, f < 5 → (if f < pn P then a f else 0) < mq P f := fun a ha f hf => by
      by_cases q : f < pn P
      · rw [if_pos q, mq_in q]; exact ha f q
      · rw [if_neg q, mq_out (by omega)]; omega
    have hd : ∀ a : Nat → Nat, (∀ f, f < pn P → a f < pq P f) → dfB P (fno (fun f => if f < pn P then a f else 0) 5) = (fs P a != 0) := fun a ha => by
      rw [dfB_fs hO (hr a ha), fs_congr P (b := a) (fun i hi => if_pos hi)]
    have h0 : pn P ≠ 0 := fun q => by
      have h6 := h3 (fun f => if f < pn P then 0 else 0) (fun f _ hf => by
        dsimp only
        rw [h1 f (by omega) hf, if_neg (by omega)]; exact bit_01.mpr rfl)
      rw [hd (fun _ => 0) (fun f hf => by omega)] at h6
      have h7 : fs P (fun _ => 0) < 2 ^ pm P := bS_lt _ _
      rw [hO.2.2.2.2.2.2 q, Nat.pow_zero] at h7
      rw [show fs P (fun _ => 0) = 0 by omega] at h6
      cases h6
    have hs : ∀ f, f < pn P → bk X f ≠ 0 ∧ bk X f < 2 ^ pq P f := fun f hf => by
      have := h2 f (by omega)
      rw [mq_in hf] at this
      exact this
    refine ⟨h0, h1, hs, fun a ha h => ?_, fun f hf v hv hb => ?_⟩
    · have h6 := h3 (fun f => if f < pn P then a f else 0) (fun f _ hf => by
        by_cases q : f < pn P
        · dsimp only; rw [if_pos q]; exact ha f (Nat.zero_le f) q
        · dsimp only; rw [if_neg q, h1 f (by omega) hf]; exact bit_01.mpr rfl)
      rw [hd a (fun f hf => big_bit (hs f hf).2 (ha f (Nat.zero_le f) hf)), h] at h6
      cases h6
    · obtain ⟨a, a1, a2, a3⟩ := h4 f (by omega) v (by rw [mq_in hf]; exact hv) hb
      refine ⟨a, a1, fun i hi hif => a2 i (by omega) hif, ?_⟩
      rw [dfB_fs hO (fun i hi => ?_)] at a3
      · simpa using a3
      · by_cases q2 : i = f
        · rw [q2, a1, mq_in hf]; exact hv
        · exact big_bit (h2 i hi).2 (a2 i hi q2)
/-- a value of the last field fails behind all values of the sets of the others -/
def lsP (P : zPl) (D : Nat → Nat) (z : Nat) : Prop := ∀ a : Nat → Nat, (∀ f, f < 4 → (D f).testBit (a f) = true) → a 4 = z → dfB P (fno a 5) = true
theorem lsP_congr {C : Nat → Nat} {z : Nat} (h : ∀ f, f < 4 → D f = C f) : lsP P D z ↔ lsP P C z := ⟨fun k a ha => k a (fun f hf => by rw [h f hf]; exact ha f hf), fun k a ha => k a (fun f hf => by rw [← h f hf]; exact ha f hf)⟩
/-- a further value that hurts no form -/
def fvP (P : zPl) (D : Nat → Nat) (L f v : Nat) : Prop := ∀ z, L.testBit z = true → lsP P (upA D f (2 ^ v)) z
theorem upA_lt {f v : Nat} (hv : v < 5) (hD : ∀ i, i < 4 → D i < 32) : ∀ i, i < 4 → upA D f (2 ^ v) i < 32 := fun i hi => by
  unfold upA
  split
  · exact (show 2 ^ v < 2 ^ 5 from Nat.pow_lt_pow_right (by omega) hv)
  · exact hD i hi
/-- the reference finds the greatest boxes -/
theorem gM_iff (hO : pOK P) {L : Nat} (hL : L < 2 ^ mq P 4) (hz : ∀ z, L.testBit z = true ↔ z < mq P 4 ∧ lsP P D z) (hD : ∀ f, f < 4 → D f ≠ 0 ∧ D f < 2 ^ mq P f) : gM P (upA D 4 L) ↔ L ≠ 0 ∧ ∀ f, f < 4 → ∀ v, v < mq P f → (D f).testBit v = false → ¬ fvP P D L f v := by
  have eL : upA D 4 L 4 = L := if_pos rfl
  have eD : ∀ f, f < 4 → upA D 4 L f = D f := fun f hf => if_neg (by omega)
  constructor
  · rintro ⟨h1, h2, h3⟩
    refine ⟨by have := (h1 4 (by omega)).1; rw [eL] at this; exact this, fun f hf v hv hb hfv => ?_⟩
    obtain ⟨a, a1, a2, a3⟩ := h3 f (by omega) v hv (by rw [eD f hf]; exact hb)
    have h4 := a2 4 (by omega) (by omega)
    rw [eL] at h4
    have h5 := hfv (a 4) h4 a (fun i hi => by
      unfold upA
      by_cases q : i = f
      · rw [if_pos q, q, a1, Nat.testBit_two_pow_self]
      · rw [if_neg q]
        have h6 := a2 i (by omega) q
        rw [eD i hi] at h6
        exact h6) rfl
    rw [h5] at a3
    cases a3
  · rintro ⟨h1, h2⟩
    refine ⟨fun f hf => ?_, fun a ha => ?_, fun f hf v hv hb => ?_⟩
    · by_cases q : f = 4
      · rw [q, eL]; exact ⟨h1, hL⟩
      · rw [eD f (by omega)]; exact hD f (by omega)
    · have h4 := ha 4 (by omega) (by omega)
      rw [eL, hz] at h4
      exact h4.2 a (fun f hf => by have := ha f (Nat.zero_le f) (by omega); rw [eD f hf] at this; exact this) rfl
    · by_cases q : f = 4
      · subst q
        rw [eL] at hb
        have h4 : ¬ lsP P D v := fun k => by rw [(hz v).mpr ⟨hv, k⟩] at hb; cases hb
        refine Classical.byContradiction (fun h5 => h4 (fun a ha hav => ?_))
        cases h6 : dfB P (fno a 5) with
        | true => rfl
        | false => exact (h5 ⟨a, hav, fun i hi hif => by rw [eD i (by omega)]; exact ha i (by omega), h6⟩).elim
      · rw [eD f (by omega)] at hb
        have h4 := h2 f (by omega) v hv hb
        refine Classical.byContradiction (fun h5 => h4 (fun z hzL a ha haz => ?_))
        cases h6 : dfB P (fno a 5) with
        | true => rfl
        | false =>
          refine (h5 ⟨a, ?_, fun i hi hif => ?_, h6⟩).elim
          · have h7 := ha f (by omega)
            unfold upA at h7
            rw [if_pos rfl, Nat.testBit_two_pow, decide_eq_true_eq] at h7
            exact h7.symm
          · by_cases q2 : i = 4
            · rw [q2, eL, haz]; exact hzL
            · rw [eD i (by omega)]
              have h7 := ha i (by omega)
              unfold upA at h7
              rw [if_neg hif] at h7
              exact h7
end Mg
