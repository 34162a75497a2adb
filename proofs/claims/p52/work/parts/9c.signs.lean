
/-! ===== read: signs and digits; the reference's words ===== -/
section Sg
variable {g h k : zS} {tn : Nat} {tb : Nat → Nat} {s p : Nat}
theorem isBl_ff {c : Nat} (h : isBl c = false) : c ≠ 9 ∧ c ≠ 10 ∧ c ≠ 32 := by
  unfold isBl at h
  rw [Bool.or_eq_false_iff, Bool.or_eq_false_iff, beq_eq_false_iff_ne, beq_eq_false_iff_ne, beq_eq_false_iff_ne] at h
  omega
theorem isLt_ff {c : Nat} (h : isLt c = false) : c < 97 ∨ 122 < c := by
  unfold isLt at h
  rw [Bool.and_eq_false_iff, decide_eq_false_iff_not, decide_eq_false_iff_not] at h
  omega
def wT2 (c k : Nat) : Prop := c = 19 ∧ (k = 2 ∨ k = 3)
theorem e_isSign (hA : tkA tn tb s g) (x : Int32) : nX7_isSign x g = some (if chr tn tb s = x then 1 else 0) := by
  obtain ⟨hT, hs, h2, h3⟩ := hA
  have t2 := hT.2.1
  unfold nX7_isSign
  rw [h2, e_at hT s (by omega), Option.bind_some]
  by_cases q : chr tn tb s = x
  · rw [if_pos q, if_pos q]
  · rw [if_neg q, if_neg q]
theorem e_nextA (hA : tkA tn tb s g) : ∃ h, nX7_next g = some h ∧ tkA tn tb (sk tn tb (te tn tb s)) h ∧ mw wT2 g h := by
  obtain ⟨hT, hs, h2, h3⟩ := hA
  exact e_next (te_le hs).2.1 hT h3
theorem e_takes (hA : tkA tn tb s g) (x : Int32) : (chr tn tb s = x → ∃ h, nX7_takes x g = some (1, h) ∧ tkA tn tb (sk tn tb (te tn tb s)) h ∧ mw wT2 g h) ∧ (chr tn tb s ≠ x → nX7_takes x g = some (0, g)) := by
  unfold nX7_takes
  rw [e_isSign hA, Option.bind_some]
  constructor
  · intro q
    obtain ⟨h, w, a⟩ := e_nextA hA
    rw [if_pos q, if_neg n01, w, Option.bind_some]
    exact ⟨h, rfl, a⟩
  · intro q
    rw [if_neg q, if_pos rfl]
/-- a digit of a range stands alone -/
def dgO (tn : Nat) (tb : Nat → Nat) (s lo hi : Nat) : Prop := te tn tb s - s = 1 ∧ s < tn ∧ 48 + lo ≤ tb s ∧ tb s ≤ 48 + hi
theorem dg_sub {c : Nat} (h : 48 ≤ c) (h2 : c < 256) : nI c - (48 : Int32) = nI (c - 48) := nI_sub (b := 48) h
theorem dg_lt {c : Nat} (h : c < 48) : nI c - (48 : Int32) < 0 := by
  have : ∀ c, c < 48 → nI c - (48 : Int32) < 0 := by decide
  exact this c h
theorem e_takeNumber (hA : tkA tn tb s g) {lo hi : Nat} (hlo : lo ≤ 9) (hhi : hi ≤ 9) : (dgO tn tb s lo hi → ∃ h, nX7_takeNumber (nI lo) (nI hi) g = some (nI (tb s - 48), h) ∧ tkA tn tb (sk tn tb (te tn tb s)) h ∧ mw wT2 g h) ∧ (¬ dgO tn tb s lo hi → nX7_takeNumber (nI lo) (nI hi) g = some (-1, g)) := by
  obtain ⟨hT, hs, h2, h3⟩ := id hA
  have t2 := hT.2.1
  have hte := te_le (tb := tb) hs
  have hsb : nI (te tn tb s) - nI s = nI (te tn tb s - s) := nI_sub (by omega)
  unfold nX7_takeNumber
  rw [h2, e_at hT s (by omega), Option.bind_some, h3, hsb]
  constructor
  · rintro ⟨q1, q2, q3, q4⟩
    obtain ⟨h, w, a⟩ := e_nextA hA
    have h256 := chr_lt hT q2
    rw [if_pos (by rw [q1]; rfl), chr_in q2, dg_sub (by omega) h256, if_neg (fun e => by rw [nN_lt (by omega) (by omega)] at e; omega), if_pos ((nN_le (by omega) (by omega)).mpr (by omega)), w, Option.bind_some]
    exact ⟨h, rfl, a⟩
  · intro q
    by_cases q1 : te tn tb s - s = 1
    · have q2 : s < tn := by omega
      have h256 := chr_lt hT q2
      rw [if_pos (by rw [q1]; rfl), chr_in q2]
      by_cases q3 : 48 ≤ tb s
      · rw [dg_sub q3 h256]
        by_cases q4 : tb s - 48 < lo
        · rw [if_pos ((nN_lt (by omega) (by omega)).mpr q4)]
        · rw [if_neg (fun e => q4 ((nN_lt (by omega) (by omega)).mp e)), if_neg (fun e => by
            rw [nN_le (by omega) (by omega)] at e
            exact q ⟨q1, q2, by omega, by omega⟩)]
      · rw [if_pos (Int32.lt_of_lt_of_le (dg_lt (by omega)) (show (0 : Int32) ≤ nI lo from (nN_le (a := 0) (by omega) (by omega)).mpr (Nat.zero_le _)))]
    · rw [if_neg (show ¬ nI (te tn tb s - s) = (1 : Int32) from fun e => q1 ((nN_eq (b := 1) (by omega) (by omega)).mp e))]
/-- the reference's text; it stands at p -/
def rdT (tn : Nat) (tb : Nat → Nat) (g : zS) : Prop := g.1 42 3 = nI tn ∧ (∀ k, k < tn → g.1 43 k = nI (tb k)) ∧ tn ≤ 400 ∧ ∀ k, k < tn → tb k < 256
def rdX (tn : Nat) (tb : Nat → Nat) (p : Nat) (g : zS) : Prop := rdT tn tb g ∧ g.1 42 4 = nI p ∧ p ≤ tn ∧ True
def wP4 (c k : Nat) : Prop := c = 42 ∧ k = 4
theorem rdT_mw {W : Nat → Nat → Prop} (q : ∀ c k, W c k → c ≠ 43 ∧ (c = 42 → k ≠ 3)) (a : mw W g h) (t : rdT tn tb g) : rdT tn tb h := ⟨by rw [a.1 42 3 (fun w => (q _ _ w).2 rfl rfl)]; exact t.1, fun k hk => by rw [a.1 43 k (fun w => (q _ _ w).1 rfl)]; exact t.2.1 k hk, t.2.2⟩
theorem rdX_mv {q : Nat} (hX : rdX tn tb p g) (hq : q ≤ tn) : rdX tn tb q (zi g 42 4 (nI q)) := ⟨rdT_mw (W := wP4) (fun c k q => by unfold wP4 at q; omega) (mw_zi ⟨rfl, rfl⟩ _ _) hX.1, zi_at _ _ _ _, hq, trivial⟩
/-- the reference compares a word -/
theorem mwd_cmp {len k : Nat} {step : Int32 → Option (Int32 ⊕ (Int32 × zS))} (hX : rdX tn tb s g) (hk : k < 9) (hlen : (wdL k).length = len) (h1 : ∀ i, i < len → s + i < tn → step (nI i) = if nI (tb (s + i)) = nI ((wdL k).getD i 0) then some (.inl (nI (i + 1))) else zex (some (0, g))) (h3 : step (nI len) = some (.inr (1, g))) : (if nI (rn tn tb isLt s) = nI len then wh step (0 : Int32) else some (0, g)) = some (if wd tn tb s = wdL k then 1 else 0, g) := by
  have t2 := hX.1.2.2.1
  have hrl := rn_le (tn := tn) (tb := tb) isLt s
  have hp := hX.2.2.1
  have hL : ∀ k, k < 9 → 0 < (wdL k).length ∧ (wdL k).length < 7 := by decide
  have hL2 := hL k hk
  have h256 : ∀ i, i < len → (wdL k).getD i 0 < 256 := fun i hi => by
    have := wdL_lt k hk i (by omega)
    unfold isLt at this
    rw [Bool.and_eq_true, decide_eq_true_eq, decide_eq_true_eq] at this
    omega
  by_cases q : rn tn tb isLt s = len
  · rw [if_pos (by rw [q])]
    have hin : ∀ i, i < len → s + i < tn := fun i hi => by omega
    have key := wh_fsB (step := step) (fun i => !decide (tb (s + i) = (wdL k).getD i 0)) len (fun i => nI i) (1, g) (fun _ => (0, g)) (fun i hi hp => ?_) (fun i hi hp => ?_) h3
    · rw [show (0 : Int32) = nI 0 from rfl, key]
      obtain ⟨f1, f2, f3⟩ := fstB_spec (fun i => !decide (tb (s + i) = (wdL k).getD i 0)) len
      by_cases c : fstB (fun i => !decide (tb (s + i) = (wdL k).getD i 0)) len < len
      · rw [if_pos c, if_neg (fun e => ?_)]
        · rfl
        · have := f3 c
          rw [Bool.not_eq_true', decide_eq_false_iff_not] at this
          exact this ((wd_eq.mp e).2 _ (by omega))
      · rw [if_neg c, if_pos]
        refine wd_eq.mpr ⟨by omega, fun i hi => ?_⟩
        have := f2 i (by omega)
        rw [Bool.not_eq_false', decide_eq_true_eq] at this
        exact this
    · rw [Bool.not_eq_false', decide_eq_true_eq] at hp
      rw [h1 i hi (hin i hi), if_pos (by rw [hp])]
    · rw [Bool.not_eq_true', decide_eq_false_iff_not] at hp
      have := hX.1.2.2.2 _ (hin i hi)
      have := h256 i hi
      rw [h1 i hi (hin i hi), if_neg (fun e => hp ((nN_eq (by omega) (by omega)).mp e))]
      rfl
  · rw [if_neg (fun e => q ((nN_eq (by omega) (by omega)).mp e)), if_neg (fun e => q (by rw [(wd_eq.mp e).1, hlen]))]
end Sg
