
/-! ===== read: words ===== -/
section Wd
variable {g h k : zS} {tn : Nat} {tb : Nat → Nat}
/-- the letters from a place on -/
def wd (tn : Nat) (tb : Nat → Nat) (s : Nat) : List Nat := (List.range (rn tn tb isLt s)).map (fun i => tb (s + i))
theorem wd_len (s : Nat) : (wd tn tb s).length = rn tn tb isLt s := by unfold wd; rw [List.length_map, List.length_range]
theorem wd_get {s i : Nat} (h : i < rn tn tb isLt s) : (wd tn tb s).getD i 0 = tb (s + i) := by
  unfold wd
  rw [List.getD_eq_getElem?_getD, List.getElem?_map, List.getElem?_range h]
  rfl
theorem wd_mem {s c : Nat} (h : c ∈ wd tn tb s) : 97 ≤ c ∧ c ≤ 122 := by
  unfold wd at h
  rw [List.mem_map] at h
  obtain ⟨i, hi, e⟩ := h
  have := rn_in (List.mem_range.mp hi)
  rw [e] at this
  unfold isLt at this
  rw [Bool.and_eq_true, decide_eq_true_eq, decide_eq_true_eq] at this
  exact this
/-- the letters are a word: just so many, each the word's -/
theorem wd_eq {s : Nat} {w : List Nat} : wd tn tb s = w ↔ rn tn tb isLt s = w.length ∧ ∀ i, i < w.length → tb (s + i) = w.getD i 0 := by
  constructor
  · intro e
    have h1 := wd_len (tn := tn) (tb := tb) s
    rw [e] at h1
    refine ⟨h1.symm, fun i hi => ?_⟩
    rw [← e, wd_get (by omega)]
  · rintro ⟨h1, h2⟩
    refine List.ext_getElem (by rw [wd_len, h1]) (fun i hi1 hi2 => ?_)
    have e1 : (wd tn tb s)[i] = (wd tn tb s).getD i 0 := by rw [List.getD_eq_getElem?_getD, List.getElem?_eq_getElem hi1, Option.getD_some]
    have e2 : w[i] = w.getD i 0 := by rw [List.getD_eq_getElem?_getD, List.getElem?_eq_getElem hi2, Option.getD_some]
    rw [e1, e2, wd_get (by omega), h2 i hi2]
/-- a token is a word of letters just so -/
theorem tk_wd (hb : ∀ p, p < tn → tb p < 256) {s : Nat} (hs : s ≤ tn) {w : List Nat} (hw : 0 < w.length) (hl : ∀ i, i < w.length → isLt (w.getD i 0) = true) : (te tn tb s - s = w.length ∧ ∀ i, i < w.length → chr tn tb (s + i) = nI (w.getD i 0)) ↔ wd tn tb s = w := by
  have hte := te_le (tb := tb) hs
  have hlt : ∀ i, i < w.length → w.getD i 0 < 256 := fun i hi => by
    have := hl i hi
    unfold isLt at this
    rw [Bool.and_eq_true, decide_eq_true_eq, decide_eq_true_eq] at this
    omega
  have hrl := rn_le (tn := tn) (tb := tb) isLt s
  rw [wd_eq]
  constructor
  · rintro ⟨h1, h2⟩
    have hin : ∀ i, i < w.length → s + i < tn := fun i hi => by omega
    have ht : ∀ i, i < w.length → tb (s + i) = w.getD i 0 := fun i hi => by
      have e := h2 i hi
      have b1 := hb _ (hin i hi)
      have b2 := hlt i hi
      rw [chr_in (hin i hi)] at e
      exact (nN_eq (by omega) (by omega)).mp e
    refine ⟨?_, ht⟩
    have e0 := ht 0 hw
    have l0 := hl 0 hw
    rw [Nat.add_zero] at e0
    rw [← e0] at l0
    have : te tn tb s = s + rn tn tb isLt s := by
      unfold te
      rw [if_pos (by have := hin 0 hw; omega), if_pos l0]
    omega
  · rintro ⟨h1, h2⟩
    have hs2 : s < tn := by omega
    have l0 := (rn_pos (tn := tn) (tb := tb) (c := isLt) hs2).mp (by omega)
    have e : te tn tb s = s + rn tn tb isLt s := by
      unfold te
      rw [if_pos hs2, if_pos l0]
    refine ⟨by omega, fun i hi => ?_⟩
    rw [chr_in (by omega), h2 i hi]
/-- the nine words -/
def wdL (k : Nat) : List Nat := [[102, 105, 101, 108, 100], [110, 97, 109, 101, 100], [115, 99, 97, 108, 101, 100], [119, 101, 105, 103, 104, 116], [103, 114, 111, 117, 112], [101, 100, 105, 116], [97, 110, 100], [105, 110], [114, 111, 119]].getD k []
theorem wdL_lt (k : Nat) (hk : k < 9) : ∀ i, i < (wdL k).length → isLt ((wdL k).getD i 0) = true := by
  have : ∀ k, k < 9 → ∀ i, i < (wdL k).length → isLt ((wdL k).getD i 0) = true := by decide
  exact this k hk
/-- a loop that compares a token with a word -/
theorem wd_cmp {s len k : Nat} {step : Int32 → Option (Int32 ⊕ Int32)} (hT : cTp tn tb g) (hs : s ≤ tn) (hk : k < 9) (hlen : (wdL k).length = len) (h1 : ∀ i, i < len → step (nI i) = if chr tn tb (s + i) = nI ((wdL k).getD i 0) then some (.inl (nI (i + 1))) else zex (some 0)) (h2 : ∀ i, i < len → isLt ((wdL k).getD i 0) = true) (h3 : step (nI len) = some (.inr 1)) : (if nI (te tn tb s - s) = nI len then wh step (0 : Int32) else some 0) = some (if wd tn tb s = wdL k then 1 else 0) := by
  have t2 := hT.2.1
  have hte := te_le (tb := tb) hs
  have hL : ∀ k, k < 9 → 0 < (wdL k).length ∧ (wdL k).length < 7 := by decide
  have hL2 := hL k hk
  have iff := tk_wd (tb := tb) (fun p hp => chr_lt hT hp) hs (w := wdL k) hL2.1 (wdL_lt k hk)
  by_cases q : te tn tb s - s = len
  · rw [if_pos (by rw [q])]
    have key := wh_fsB (step := step) (fun i => !decide (chr tn tb (s + i) = nI ((wdL k).getD i 0))) len (fun i => nI i) 1 (fun _ => 0) (fun i hi hp => ?_) (fun i hi hp => ?_) h3
    · rw [show (0 : Int32) = nI 0 from rfl, key]
      obtain ⟨f1, f2, f3⟩ := fstB_spec (fun i => !decide (chr tn tb (s + i) = nI ((wdL k).getD i 0))) len
      by_cases c : fstB (fun i => !decide (chr tn tb (s + i) = nI ((wdL k).getD i 0))) len < len
      · rw [if_pos c, if_neg (fun e => ?_)]
        · rfl
        · have := f3 c
          rw [Bool.not_eq_true', decide_eq_false_iff_not] at this
          exact this ((iff.mpr e).2 _ (by omega))
      · rw [if_neg c, if_pos]
        refine iff.mp ⟨by omega, fun i hi => ?_⟩
        have := f2 i (by omega)
        rw [Bool.not_eq_false', decide_eq_true_eq] at this
        exact this
    · rw [Bool.not_eq_false', decide_eq_true_eq] at hp
      rw [h1 i hi, if_pos hp]
    · rw [Bool.not_eq_true', decide_eq_false_iff_not] at hp
      rw [h1 i hi, if_neg hp]
      rfl
  · rw [if_neg (fun e => q ((nN_eq (by omega) (by omega)).mp e)), if_neg (fun e => q (by rw [(iff.mpr e).1, hlen]))]
variable {s : Nat}
theorem e_isWord_900 (hA : tkA tn tb s g) : nX7_isWord_900 g = some (if wd tn tb s = wdL 0 then 1 else 0) := by
  obtain ⟨hT, hs, h2, h3⟩ := hA
  have t2 := hT.2.1
  have hte := te_le (tb := tb) hs
  have hsb : nI (te tn tb s) - nI s = nI (te tn tb s - s) := nI_sub (by omega)
  have hlen : nJ0_length_8abf5_900 = some (nI 5) := by decide
  unfold nX7_isWord_900
  rw [hlen, Option.bind_some, h2, h3, hsb]
  refine wd_cmp (len := 5) (k := 0) hT hs (by omega) rfl (fun i hi => ?_) (fun i hi => ?_) ?_
  · unfold wX7_isWord_900_22
    have hch : nJ0_charAt_5068e_900 (nI i) = some (nI ((wdL 0).getD i 0)) := by
      have : ∀ i, i < 5 → nJ0_charAt_5068e_900 (nI i) = some (nI ((wdL 0).getD i 0)) := by decide
      exact this i hi
    rw [if_neg (fun q => by rw [nN_le (by omega) (by omega)] at q; omega), h2, nN_add, e_at hT _ (by omega), Option.bind_some, hch, Option.bind_some, nI_s]
  · exact wdL_lt 0 (by decide) i hi
  · unfold wX7_isWord_900_22
    rw [if_pos (Int32.le_refl _)]
    rfl
theorem e_isWord_901 (hA : tkA tn tb s g) : nX7_isWord_901 g = some (if wd tn tb s = wdL 1 then 1 else 0) := by
  obtain ⟨hT, hs, h2, h3⟩ := hA
  have t2 := hT.2.1
  have hte := te_le (tb := tb) hs
  have hsb : nI (te tn tb s) - nI s = nI (te tn tb s - s) := nI_sub (by omega)
  have hlen : nJ0_length_8abf5_901 = some (nI 5) := by decide
  unfold nX7_isWord_901
  rw [hlen, Option.bind_some, h2, h3, hsb]
  refine wd_cmp (len := 5) (k := 1) hT hs (by omega) rfl (fun i hi => ?_) (fun i hi => ?_) ?_
  · unfold wX7_isWord_901_22
    have hch : nJ0_charAt_5068e_901 (nI i) = some (nI ((wdL 1).getD i 0)) := by
      have : ∀ i, i < 5 → nJ0_charAt_5068e_901 (nI i) = some (nI ((wdL 1).getD i 0)) := by decide
      exact this i hi
    rw [if_neg (fun q => by rw [nN_le (by omega) (by omega)] at q; omega), h2, nN_add, e_at hT _ (by omega), Option.bind_some, hch, Option.bind_some, nI_s]
  · exact wdL_lt 1 (by decide) i hi
  · unfold wX7_isWord_901_22
    rw [if_pos (Int32.le_refl _)]
    rfl
theorem e_isWord_902 (hA : tkA tn tb s g) : nX7_isWord_902 g = some (if wd tn tb s = wdL 2 then 1 else 0) := by
  obtain ⟨hT, hs, h2, h3⟩ := hA
  have t2 := hT.2.1
  have hte := te_le (tb := tb) hs
  have hsb : nI (te tn tb s) - nI s = nI (te tn tb s - s) := nI_sub (by omega)
  have hlen : nJ0_length_8abf5_902 = some (nI 6) := by decide
  unfold nX7_isWord_902
  rw [hlen, Option.bind_some, h2, h3, hsb]
  refine wd_cmp (len := 6) (k := 2) hT hs (by omega) rfl (fun i hi => ?_) (fun i hi => ?_) ?_
  · unfold wX7_isWord_902_22
    have hch : nJ0_charAt_5068e_902 (nI i) = some (nI ((wdL 2).getD i 0)) := by
      have : ∀ i, i < 6 → nJ0_charAt_5068e_902 (nI i) = some (nI ((wdL 2).getD i 0)) := by decide
      exact this i hi
    rw [if_neg (fun q => by rw [nN_le (by omega) (by omega)] at q; omega), h2, nN_add, e_at hT _ (by omega), Option.bind_some, hch, Option.bind_some, nI_s]
  · exact wdL_lt 2 (by decide) i hi
  · unfold wX7_isWord_902_22
    rw [if_pos (Int32.le_refl _)]
    rfl
theorem e_isWord_903 (hA : tkA tn tb s g) : nX7_isWord_903 g = some (if wd tn tb s = wdL 3 then 1 else 0) := by
  obtain ⟨hT, hs, h2, h3⟩ := hA
  have t2 := hT.2.1
  have hte := te_le (tb := tb) hs
  have hsb : nI (te tn tb s) - nI s = nI (te tn tb s - s) := nI_sub (by omega)
  have hlen : nJ0_length_8abf5_903 = some (nI 6) := by decide
  unfold nX7_isWord_903
  rw [hlen, Option.bind_some, h2, h3, hsb]
  refine wd_cmp (len := 6) (k := 3) hT hs (by omega) rfl (fun i hi => ?_) (fun i hi => ?_) ?_
  · unfold wX7_isWord_903_22
    have hch : nJ0_charAt_5068e_903 (nI i) = some (nI ((wdL 3).getD i 0)) := by
      have : ∀ i, i < 6 → nJ0_charAt_5068e_903 (nI i) = some (nI ((wdL 3).getD i 0)) := by decide
      exact this i hi
    rw [if_neg (fun q => by rw [nN_le (by omega) (by omega)] at q; omega), h2, nN_add, e_at hT _ (by omega), Option.bind_some, hch, Option.bind_some, nI_s]
  · exact wdL_lt 3 (by decide) i hi
  · unfold wX7_isWord_903_22
    rw [if_pos (Int32.le_refl _)]
    rfl
theorem e_isWord_904 (hA : tkA tn tb s g) : nX7_isWord_904 g = some (if wd tn tb s = wdL 4 then 1 else 0) := by
  obtain ⟨hT, hs, h2, h3⟩ := hA
  have t2 := hT.2.1
  have hte := te_le (tb := tb) hs
  have hsb : nI (te tn tb s) - nI s = nI (te tn tb s - s) := nI_sub (by omega)
  have hlen : nJ0_length_8abf5_904 = some (nI 5) := by decide
  unfold nX7_isWord_904
  rw [hlen, Option.bind_some, h2, h3, hsb]
  refine wd_cmp (len := 5) (k := 4) hT hs (by omega) rfl (fun i hi => ?_) (fun i hi => ?_) ?_
  · unfold wX7_isWord_904_22
    have hch : nJ0_charAt_5068e_904 (nI i) = some (nI ((wdL 4).getD i 0)) := by
      have : ∀ i, i < 5 → nJ0_charAt_5068e_904 (nI i) = some (nI ((wdL 4).getD i 0)) := by decide
      exact this i hi
    rw [if_neg (fun q => by rw [nN_le (by omega) (by omega)] at q; omega), h2, nN_add, e_at hT _ (by omega), Option.bind_some, hch, Option.bind_some, nI_s]
  · exact wdL_lt 4 (by decide) i hi
  · unfold wX7_isWord_904_22
    rw [if_pos (Int32.le_refl _)]
    rfl
theorem e_isWord_905 (hA : tkA tn tb s g) : nX7_isWord_905 g = some (if wd tn tb s = wdL 5 then 1 else 0) := by
  obtain ⟨hT, hs, h2, h3⟩ := hA
  have t2 := hT.2.1
  have hte := te_le (tb := tb) hs
  have hsb : nI (te tn tb s) - nI s = nI (te tn tb s - s) := nI_sub (by omega)
  have hlen : nJ0_length_8abf5_905 = some (nI 4) := by decide
  unfold nX7_isWord_905
  rw [hlen, Option.bind_some, h2, h3, hsb]
  refine wd_cmp (len := 4) (k := 5) hT hs (by omega) rfl (fun i hi => ?_) (fun i hi => ?_) ?_
  · unfold wX7_isWord_905_22
    have hch : nJ0_charAt_5068e_905 (nI i) = some (nI ((wdL 5).getD i 0)) := by
      have : ∀ i, i < 4 → nJ0_charAt_5068e_905 (nI i) = some (nI ((wdL 5).getD i 0)) := by decide
      exact this i hi
    rw [if_neg (fun q => by rw [nN_le (by omega) (by omega)] at q; omega), h2, nN_add, e_at hT _ (by omega), Option.bind_some, hch, Option.bind_some, nI_s]
  · exact wdL_lt 5 (by decide) i hi
  · unfold wX7_isWord_905_22
    rw [if_pos (Int32.le_refl _)]
    rfl
theorem e_isWord_906 (hA : tkA tn tb s g) : nX7_isWord_906 g = some (if wd tn tb s = wdL 6 then 1 else 0) := by
  obtain ⟨hT, hs, h2, h3⟩ := hA
  have t2 := hT.2.1
  have hte := te_le (tb := tb) hs
  have hsb : nI (te tn tb s) - nI s = nI (te tn tb s - s) := nI_sub (by omega)
  have hlen : nJ0_length_8abf5_906 = some (nI 3) := by decide
  unfold nX7_isWord_906
  rw [hlen, Option.bind_some, h2, h3, hsb]
  refine wd_cmp (len := 3) (k := 6) hT hs (by omega) rfl (fun i hi => ?_) (fun i hi => ?_) ?_
  · unfold wX7_isWord_906_22
    have hch : nJ0_charAt_5068e_906 (nI i) = some (nI ((wdL 6).getD i 0)) := by
      have : ∀ i, i < 3 → nJ0_charAt_5068e_906 (nI i) = some (nI ((wdL 6).getD i 0)) := by decide
      exact this i hi
    rw [if_neg (fun q => by rw [nN_le (by omega) (by omega)] at q; omega), h2, nN_add, e_at hT _ (by omega), Option.bind_some, hch, Option.bind_some, nI_s]
  · exact wdL_lt 6 (by decide) i hi
  · unfold wX7_isWord_906_22
    rw [if_pos (Int32.le_refl _)]
    rfl
theorem e_isWord_907 (hA : tkA tn tb s g) : nX7_isWord_907 g = some (if wd tn tb s = wdL 7 then 1 else 0) := by
  obtain ⟨hT, hs, h2, h3⟩ := hA
  have t2 := hT.2.1
  have hte := te_le (tb := tb) hs
  have hsb : nI (te tn tb s) - nI s = nI (te tn tb s - s) := nI_sub (by omega)
  have hlen : nJ0_length_8abf5_907 = some (nI 2) := by decide
  unfold nX7_isWord_907
  rw [hlen, Option.bind_some, h2, h3, hsb]
  refine wd_cmp (len := 2) (k := 7) hT hs (by omega) rfl (fun i hi => ?_) (fun i hi => ?_) ?_
  · unfold wX7_isWord_907_22
    have hch : nJ0_charAt_5068e_907 (nI i) = some (nI ((wdL 7).getD i 0)) := by
      have : ∀ i, i < 2 → nJ0_charAt_5068e_907 (nI i) = some (nI ((wdL 7).getD i 0)) := by decide
      exact this i hi
    rw [if_neg (fun q => by rw [nN_le (by omega) (by omega)] at q; omega), h2, nN_add, e_at hT _ (by omega), Option.bind_some, hch, Option.bind_some, nI_s]
  · exact wdL_lt 7 (by decide) i hi
  · unfold wX7_isWord_907_22
    rw [if_pos (Int32.le_refl _)]
    rfl
theorem e_isWord_908 (hA : tkA tn tb s g) : nX7_isWord_908 g = some (if wd tn tb s = wdL 8 then 1 else 0) := by
  obtain ⟨hT, hs, h2, h3⟩ := hA
  have t2 := hT.2.1
  have hte := te_le (tb := tb) hs
  have hsb : nI (te tn tb s) - nI s = nI (te tn tb s - s) := nI_sub (by omega)
  have hlen : nJ0_length_8abf5_908 = some (nI 3) := by decide
  unfold nX7_isWord_908
  rw [hlen, Option.bind_some, h2, h3, hsb]
  refine wd_cmp (len := 3) (k := 8) hT hs (by omega) rfl (fun i hi => ?_) (fun i hi => ?_) ?_
  · unfold wX7_isWord_908_22
    have hch : nJ0_charAt_5068e_908 (nI i) = some (nI ((wdL 8).getD i 0)) := by
      have : ∀ i, i < 3 → nJ0_charAt_5068e_908 (nI i) = some (nI ((wdL 8).getD i 0)) := by decide
      exact this i hi
    rw [if_neg (fun q => by rw [nN_le (by omega) (by omega)] at q; omega), h2, nN_add, e_at hT _ (by omega), Option.bind_some, hch, Option.bind_some, nI_s]
  · exact wdL_lt 8 (by decide) i hi
  · unfold wX7_isWord_908_22
    rw [if_pos (Int32.le_refl _)]
    rfl

end Wd
