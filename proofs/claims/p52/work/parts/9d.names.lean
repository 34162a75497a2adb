
/-! ===== read: names and digits ===== -/
section Nm
variable {g h k : zS} {tn : Nat} {tb : Nat → Nat} {s p : Nat} {P : zPl}
/-- a name stands there: 1 to 6 letters, none of the nine words -/
noncomputable def isNm (tn : Nat) (tb : Nat → Nat) (s : Nat) : Bool := (decide (0 < rn tn tb isLt s) && decide (rn tn tb isLt s ≤ 6)) && dB (∀ k, k < 9 → wd tn tb s ≠ wdL k)
theorem isNm_iff : isNm tn tb s = true ↔ (0 < rn tn tb isLt s ∧ rn tn tb isLt s ≤ 6) ∧ ∀ k, k < 9 → wd tn tb s ≠ wdL k := by
  unfold isNm
  rw [Bool.and_eq_true, Bool.and_eq_true, decide_eq_true_eq, decide_eq_true_eq, dB_t]
theorem k9 {q : Nat → Prop} : (∀ k, k < 9 → q k) ↔ (q 0 ∧ q 1 ∧ q 2 ∧ q 3 ∧ q 4 ∧ q 5 ∧ q 6 ∧ q 7 ∧ q 8) := by
  constructor
  · intro h
    exact ⟨h 0 (by omega), h 1 (by omega), h 2 (by omega), h 3 (by omega), h 4 (by omega), h 5 (by omega), h 6 (by omega), h 7 (by omega), h 8 (by omega)⟩
  · rintro ⟨h0, h1, h2, h3, h4, h5, h6, h7, h8⟩ k hk
    have hc : k = 0 ∨ k = 1 ∨ k = 2 ∨ k = 3 ∨ k = 4 ∨ k = 5 ∨ k = 6 ∨ k = 7 ∨ k = 8 := by omega
    rcases hc with rfl | rfl | rfl | rfl | rfl | rfl | rfl | rfl | rfl <;> assumption
theorem isName_86 (hA : tkA tn tb s g) (b : Bool) : jX7_isName_86 (if b then 1 else 0) g = some (if b = false ∧ 0 < rn tn tb isLt s ∧ rn tn tb isLt s ≤ 6 then 1 else 0) := by
  obtain ⟨hT, hs, h2, h3⟩ := hA
  have t2 := hT.2.1
  have hte := te_le (tb := tb) hs
  have hsb : nI (te tn tb s) - nI s = nI (te tn tb s - s) := nI_sub (by omega)
  have hrl := rn_le (tn := tn) (tb := tb) isLt s
  unfold jX7_isName_86
  rw [h2, e_at hT s (by omega), Option.bind_some, h3, hsb]
  by_cases c : s < tn
  · have h256 := chr_lt hT c
    rw [chr_in c, e_isLetter h256, Option.bind_some]
    by_cases c1 : isLt (tb s) = true
    · have hr := (rn_pos (tb := tb) c).mpr c1
      have e : te tn tb s - s = rn tn tb isLt s := by
        unfold te
        rw [if_pos c, if_pos c1]
        omega
      rw [if_pos c1, if_neg n01, e]
      by_cases c2 : rn tn tb isLt s ≤ 6
      · rw [if_neg (show ¬ (6 : Int32) < nI (rn tn tb isLt s) from fun e => by have := (nN_lt (a := 6) (by omega) (by omega)).mp e; omega)]
        cases b with
        | true => rw [if_neg (show ¬ (if true = true then (1 : Int32) else 0) = 0 by decide), if_neg (fun e => by cases e.1)]
        | false => rw [if_pos (show (if false = true then (1 : Int32) else 0) = 0 by decide), if_pos ⟨rfl, hr, c2⟩]
      · rw [if_pos (show (6 : Int32) < nI (rn tn tb isLt s) from (nN_lt (a := 6) (by omega) (by omega)).mpr (by omega)), if_neg (fun e => c2 e.2.2)]
    · have hr : ¬ 0 < rn tn tb isLt s := fun e => c1 ((rn_pos (tb := tb) c).mp e)
      rw [if_neg c1, if_pos rfl, if_neg (fun e => hr e.2.1)]
  · rw [chr_out c, lt_m1, Option.bind_some, if_pos rfl, if_neg (fun e => by omega)]
theorem e_isName (hA : tkA tn tb s g) : nX7_isName g = some (if isNm tn tb s then 1 else 0) := by
  have e81 : (∃ k, k < 9 ∧ wd tn tb s = wdL k) → jX7_isName_81 g = some (if isNm tn tb s then 1 else 0) := fun ⟨k, hk, e⟩ => by
    have h86 := isName_86 hA true
    unfold jX7_isName_81
    rw [if_pos rfl] at h86
    rw [h86, if_neg (fun q => by cases q.1), if_neg]
    rw [isNm_iff]
    exact fun q => q.2 k hk e
  unfold nX7_isName
  rw [e_isWord_900 hA, Option.bind_some]
  by_cases c0 : wd tn tb s = wdL 0
  · rw [if_pos c0, if_neg n01, e81 ⟨0, by omega, c0⟩]
  rw [if_neg c0, if_pos rfl, e_isWord_901 hA, Option.bind_some]
  by_cases c1 : wd tn tb s = wdL 1
  · rw [if_pos c1, if_neg n01, e81 ⟨1, by omega, c1⟩]
  rw [if_neg c1, if_pos rfl, e_isWord_902 hA, Option.bind_some]
  by_cases c2 : wd tn tb s = wdL 2
  · rw [if_pos c2, if_neg n01, e81 ⟨2, by omega, c2⟩]
  rw [if_neg c2, if_pos rfl, e_isWord_903 hA, Option.bind_some]
  by_cases c3 : wd tn tb s = wdL 3
  · rw [if_pos c3, if_neg n01, e81 ⟨3, by omega, c3⟩]
  rw [if_neg c3, if_pos rfl, e_isWord_904 hA, Option.bind_some]
  by_cases c4 : wd tn tb s = wdL 4
  · rw [if_pos c4, if_neg n01, e81 ⟨4, by omega, c4⟩]
  rw [if_neg c4, if_pos rfl, e_isWord_905 hA, Option.bind_some]
  by_cases c5 : wd tn tb s = wdL 5
  · rw [if_pos c5, if_neg n01, e81 ⟨5, by omega, c5⟩]
  rw [if_neg c5, if_pos rfl, e_isWord_906 hA, Option.bind_some]
  by_cases c6 : wd tn tb s = wdL 6
  · rw [if_pos c6, if_neg n01, e81 ⟨6, by omega, c6⟩]
  rw [if_neg c6, if_pos rfl, e_isWord_907 hA, Option.bind_some]
  by_cases c7 : wd tn tb s = wdL 7
  · rw [if_pos c7, if_neg n01, e81 ⟨7, by omega, c7⟩]
  rw [if_neg c7, if_pos rfl, e_isWord_908 hA, Option.bind_some]
  by_cases c8 : wd tn tb s = wdL 8
  · rw [if_pos c8, if_neg n01, e81 ⟨8, by omega, c8⟩]
  have h86 := isName_86 hA false
  rw [if_neg (by decide)] at h86
  rw [if_neg c8, if_pos rfl, h86]
  have hno : ∀ k, k < 9 → wd tn tb s ≠ wdL k := k9.mpr ⟨c0, c1, c2, c3, c4, c5, c6, c7, c8⟩
  by_cases q : 0 < rn tn tb isLt s ∧ rn tn tb isLt s ≤ 6
  · rw [if_pos ⟨rfl, q⟩, if_pos (isNm_iff.mpr ⟨q, hno⟩)]
  · rw [if_neg (fun e => q e.2), if_neg (fun e => q (isNm_iff.mp e).1)]
theorem sk_sk {p : Nat} (hp : p ≤ tn) : sk tn tb (sk tn tb p) = sk tn tb p := by
  have hl := rn_le (tn := tn) (tb := tb) isBl (sk tn tb p)
  have hs := sk_le (tb := tb) hp
  apply Nat.le_antisymm _ (sk_le hs.2).1
  apply Nat.le_of_not_lt
  intro h
  have h0 : 0 < rn tn tb isBl (sk tn tb p) := by unfold sk at h ⊢; omega
  have hlt : sk tn tb p < tn := by omega
  have h1 := (rn_pos (tb := tb) hlt).mp h0
  have h2 := rn_end (tn := tn) (tb := tb) (c := isBl) (p := p) (by unfold sk at hlt; exact hlt)
  unfold sk at h1
  rw [h2] at h1
  cases h1
theorem rn_dg1 (hs : s < tn) (h : isDg (tb s) = true) : rn tn tb isDg s = 1 ↔ ¬ (s + 1 < tn ∧ isDg (tb (s + 1)) = true) := by
  have hl := rn_le (tn := tn) (tb := tb) isDg s
  have hp := (rn_pos (tb := tb) (c := isDg) hs).mpr h
  constructor
  · intro e q
    have := rn_end (tn := tn) (tb := tb) (c := isDg) (p := s) (by omega)
    rw [e, q.2] at this
    cases this
  · intro q
    apply Nat.le_antisymm _ hp
    apply Nat.le_of_not_lt
    intro h2
    have := rn_in (tn := tn) (tb := tb) (c := isDg) (p := s) (i := 1) h2
    exact q ⟨by omega, this⟩
theorem isDg_iff {c : Nat} : isDg c = true ↔ 48 ≤ c ∧ c ≤ 57 := by
  unfold isDg
  rw [Bool.and_eq_true, decide_eq_true_eq, decide_eq_true_eq]
theorem isLt_dg {c : Nat} (h : isDg c = true) : isLt c = false := by
  rw [isDg_iff] at h
  unfold isLt
  rw [Bool.and_eq_false_iff, decide_eq_false_iff_not]
  omega
theorem dgO_iff {lo hi : Nat} (hs : s ≤ tn) (hhi : hi ≤ 9) : dgO tn tb s lo hi ↔ s < tn ∧ isDg (tb s) = true ∧ ¬ (s + 1 < tn ∧ isDg (tb (s + 1)) = true) ∧ 48 + lo ≤ tb s ∧ tb s ≤ 48 + hi := by
  unfold dgO
  constructor
  · rintro ⟨h1, h2, h3, h4⟩
    have hd : isDg (tb s) = true := isDg_iff.mpr (by omega)
    refine ⟨h2, hd, ?_, h3, h4⟩
    rw [← rn_dg1 h2 hd]
    unfold te at h1
    rw [if_pos h2, if_neg (by rw [isLt_dg hd]; decide), if_pos hd] at h1
    omega
  · rintro ⟨h2, hd, h1, h3, h4⟩
    refine ⟨?_, h2, h3, h4⟩
    rw [← rn_dg1 h2 hd] at h1
    unfold te
    rw [if_pos h2, if_neg (by rw [isLt_dg hd]; decide), if_pos hd, h1]
    omega
/-- what the reference's reader changes -/
def wRd (c k : Nat) : Prop := (c = 42 ∧ (k = 0 ∨ (3 ≤ k ∧ k ≤ 9))) ∨ (44 ≤ c ∧ c ≤ 49)
def wP45 (c k : Nat) : Prop := c = 42 ∧ (k = 4 ∨ k = 5)
theorem rdX_5 {x : Int32} (hX : rdX tn tb p g) : rdX tn tb p (zi g 42 5 x) := ⟨rdT_mw (W := fun c k => c = 42 ∧ k = 5) (fun c k q => by omega) (mw_zi ⟨rfl, rfl⟩ _ _) hX.1, by rw [zi_else _ _ (by omega)]; exact hX.2.1, hX.2.2⟩
end Nm
