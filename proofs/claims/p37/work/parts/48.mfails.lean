
/-! ===== the reference: rows that pass, edits that rows fail, ways ===== -/
section Ms
variable {P : zPl} {g : zS} {N : Nat} {r : Nat → Nat}
theorem rmis_0 (c n : Nat) : rmis c n = 0 ↔ ∀ f, f < n → rv c f ≠ 0 := by
  unfold rmis
  constructor
  · intro h f hf h0
    have := congrArg (fun z => z.testBit f) h
    rw [bS_bit, decide_eq_true hf, Nat.zero_testBit] at this
    simp [h0] at this
  · intro h
    apply Nat.eq_of_testBit_eq
    intro f
    rw [bS_bit, Nat.zero_testBit]
    by_cases hf : f < n
    · simp [hf, h f hf]
    · simp [hf]
theorem lft_full {c : Nat} (h : ∀ f, f < pn P → rv c f ≠ 0) : lft P c 0 (pn P) = fs P (fun f => rv c f - 1) := by
  apply Nat.eq_of_testBit_eq
  intro e
  rw [Bool.eq_iff_iff, lft_bit, fs_bit]
  constructor
  · rintro ⟨h1, h2⟩
    refine ⟨h1, fun f hf => ?_⟩
    have h3 := h2 f hf (Nat.zero_testBit f)
    rw [eoa_bit] at h3
    exact h3.2.2 (h f hf)
  · rintro ⟨h1, h2⟩
    refine ⟨h1, fun f hf _ => ?_⟩
    rw [eoa_bit]
    exact ⟨h1, fun q => absurd q (h f hf), fun _ => h2 f hf⟩
/-- the form of a full row -/
theorem row_form (hO : pOK P) {c : Nat} (hc : rOK P c) (h : ∀ f, f < pn P → rv c f ≠ 0) : fno (fun f => rv c f - 1) (pn P) < 3125 ∧ isF5 P (fno (fun f => rv c f - 1) (pn P)) = true ∧ fsM P (fno (fun f => rv c f - 1) (pn P)) = lft P c 0 (pn P) := by
  rw [lft_full h]
  exact fno_form hO (fun f hf => by have := hc.2.1 f hf; have := h f hf; omega)
theorem m_passesRow (hO : pOK P) (hM : mP P g) (hF : mF P g) (hR : mR P N r g) {i : Nat} (hi : i < N) : nX11_passesRow (nI i) g = some (if rgt P (r i) then 1 else 0) := by
  have h5 := hO.1
  have h7 := p2n hO
  have hb : rmis (r i) (pn P) < 2 ^ pn P := bS_lt _ _
  unfold nX11_passesRow rgt
  rw [m_missing hO hM hR hi, Option.bind_some]
  by_cases c : rmis (r i) (pn P) = 0
  · obtain ⟨v1, v2, v3⟩ := row_form hO (hR.2.2 i hi).2 ((rmis_0 _ _).mp c)
    rw [if_pos (by rw [c]; rfl), m_formOf hO hM hR hi, Option.bind_some, m_passes hO hF v1, Option.bind_some, show psF P (fno (fun f => rv (r i) f - 1) (pn P)) = (lft P (r i) 0 (pn P) == 0) by unfold psF; rw [v2, v3, Bool.true_and], c, beq_self_eq_true, Bool.true_and]
    cases (lft P (r i) 0 (pn P) == 0) <;> rfl
  · rw [if_neg (fun q => c ((nN_eq0 (by omega)).mp q)), show (rmis (r i) (pn P) == 0) = false from by simp [c], Bool.false_and]; rfl
theorem lft0_s (c n : Nat) : lft P c 0 (n + 1) = lft P c 0 n &&& eoa P n (rv c n) := by
  rw [lft_s, Nat.zero_testBit, if_neg (by decide)]
/-- whether an edit stays open behind a field -/
def opB (P : zPl) (c e f : Nat) : Bool := (eoa P f (rv c f)).testBit e
theorem m_fails18 (hO : pOK P) (hM : mP P g) (hR : mR P N r g) {i e a : Nat} (hi : i < N) (he : e < pm P) : wh (wX11_failsOf_18 (nI i) (nI a) (nI e) g) ((1 : Int32), (0 : Int32)) = some (.inl (nI (a ||| (if alB (opB P (r i) e) (pn P) then 2 ^ e else 0)), nI (e + 1))) := by
  have h5 := hO.1
  have hm := hO.2.2.2.1
  refine wh_seq (fun f => (bI (alB (opB P (r i) e) f), nI f)) (pn P) (fun f hf => ?_) ?_
  · have hE := hO.2.2.2.2.1 e he f hf
    have hq := (hO.2.1 f hf).2.1
    have hq2 : 2 ^ pq P f ≤ 32 := Nat.pow_le_pow_right (n := 2) (by omega) hq
    have hv := (hR.2.2 i hi).2.2.1 f hf
    have hpp : 0 < 2 ^ pq P f := Nat.two_pow_pos _
    dsimp only [wX11_failsOf_18]
    rw [hM.1, if_neg (by rw [nN_le (by omega) (by omega)]; omega), show (5 : Int32) = nI 5 from rfl, nI_mul, nN_add, zchk_t (zin_nI (by omega) (by omega)), m_all hO hM (by omega), Option.bind_some, nI_cl (by omega), hM.2.2.2.2.2.2.1 e he f hf, nI_s, alB_s, show mq P f = pq P f from if_pos hf]
    have hop : opB P (r i) e f = (decide (pE P e f = 2 ^ pq P f - 1) || (rv (r i) f != 0 && (pE P e f).testBit (rv (r i) f - 1))) := by
      unfold opB
      rw [Bool.eq_iff_iff, eoa_bit, Bool.or_eq_true, decide_eq_true_eq, Bool.and_eq_true, bne_iff_ne]
      constructor
      · rintro ⟨_, h1, h2⟩
        by_cases c : rv (r i) f = 0
        · left
          apply Nat.eq_of_testBit_eq
          intro v
          rw [m1_bit]
          by_cases q : v < pq P f
          · rw [h1 c v q, decide_eq_true q]
          · rw [decide_eq_false q]
            exact Nat.testBit_lt_two_pow (Nat.lt_of_lt_of_le hE (Nat.pow_le_pow_right (by omega) (by omega)))
        · exact Or.inr ⟨c, h2 c⟩
      · intro h
        refine ⟨he, fun c v q => ?_, fun c => ?_⟩
        · rcases h with h | h
          · rw [h, m1_bit, decide_eq_true q]
          · exact absurd c h.1
        · rcases h with h | h
          · rw [h, m1_bit, decide_eq_true (by omega)]
          · exact h.2
    rw [hop]
    by_cases c : pE P e f = 2 ^ pq P f - 1
    · rw [if_pos (by rw [c]), decide_eq_true c, Bool.true_or, Bool.and_true]
    · rw [if_neg (fun q => c ((nN_eq (by omega) (by omega)).mp q)), decide_eq_false c, Bool.false_or]
      cases alB (opB P (r i) e) f with
      | false => rw [if_pos ((bI_0 false).mpr rfl), Bool.false_and]; rfl
      | true =>
        rw [if_neg (fun q => absurd ((bI_0 true).mp q) (by decide)), m_of hR h5 hi hf, Option.bind_some, Option.bind_some, Bool.true_and]
        by_cases c2 : rv (r i) f = 0
        · rw [if_pos ((nJ_m1 (by omega)).mpr c2), show (rv (r i) f != 0) = false from by simp [c2], Bool.false_and]; rfl
        · rw [if_neg (fun q => c2 ((nJ_m1 (by omega)).mp q)), show nJ (rv (r i) f) = nI (rv (r i) f - 1) by rw [← nJ_s, show rv (r i) f - 1 + 1 = rv (r i) f by omega], m_has (by omega) (by omega), Option.bind_some, show (rv (r i) f != 0) = true from by simp [c2], Bool.true_and]
          cases (pE P e f).testBit (rv (r i) f - 1) with
          | false => rw [if_pos (show (if false = true then (1 : Int32) else 0) = 0 by decide)]; rfl
          | true => rw [if_neg (show ¬ (if true = true then (1 : Int32) else 0) = 0 by decide)]; rfl
  · dsimp only [wX11_failsOf_18]
    rw [hM.1, if_pos (Int32.le_refl _)]
    cases alB (opB P (r i) e) (pn P) with
    | false => rw [if_pos ((bI_0 false).mpr rfl), nI_s, show (0 : Int32) = nI 0 from rfl, nI_or]; rfl
    | true => rw [if_neg (fun q => absurd ((bI_0 true).mp q) (by decide)), nI_s, nI_shl (by omega), nI_or]; rfl
theorem m_failsOf (hO : pOK P) (hM : mP P g) (hR : mR P N r g) {i : Nat} (hi : i < N) : nX11_failsOf (nI i) g = some (nI (lft P (r i) 0 (pn P))) := by
  have hm := hO.2.2.2.1
  have hl : lft P (r i) 0 (pn P) = bS (fun e => alB (opB P (r i) e) (pn P)) (pm P) := by
    apply Nat.eq_of_testBit_eq
    intro e
    rw [Bool.eq_iff_iff, lft_bit, bS_bit, Bool.and_eq_true, decide_eq_true_eq, alB_iff]
    exact ⟨fun h => ⟨h.1, fun f hf => h.2 f hf (Nat.zero_testBit f)⟩, fun h => ⟨h.1, fun f hf _ => h.2 f hf⟩⟩
  unfold nX11_failsOf
  rw [hl]
  refine wh_seq (fun e => (nI (bS (fun e => alB (opB P (r i) e) (pn P)) e), nI e)) (pm P) (fun e he => ?_) ?_
  · dsimp only [wX11_failsOf_4]
    rw [hM.2.1, if_neg (by rw [nN_le (by omega) (by omega)]; omega), m_fails18 hO hM hR hi he, bS_one (fun e => alB (opB P (r i) e) (pn P)) e]
  · dsimp only [wX11_failsOf_4]
    rw [hM.2.1, if_pos (Int32.le_refl _)]
    rfl
end Ms
