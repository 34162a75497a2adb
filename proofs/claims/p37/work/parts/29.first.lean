
/-! ===== the first way ===== -/
section Fi
variable {P : zPl} {g : zS}
/-- the row as the first way by S has it -/
def fw (P : zPl) (c S : Nat) : Nat := (fwN P c (lft P c S (pn P)) S (pn P)).1
theorem way_step {c S k v : Nat} (h5 : pn P ≤ 5) (hk : k < pn P) (hv : v < 5) (hS : S.testBit k = true) (a : Nat → Nat) : way P (wa c k (v + 1)) (sdl S k) a ↔ way P c S a ∧ a k = v := by
  constructor
  · intro w
    refine ⟨⟨w.1, fun f hf hS' => ?_, w.2.2⟩, ?_⟩
    · have hfk : f ≠ k := fun q => by subst q; rw [hS] at hS'; cases hS'
      have h := w.2.1 f hf (by rw [sdl_bit (by omega), hS']; rfl)
      rw [rv_wa (by omega) (by omega) (by omega), if_neg hfk] at h
      exact h
    · have h := w.2.1 k hk (by rw [sdl_bit (by omega)]; simp)
      rw [rv_wa (by omega) (by omega) (by omega), if_pos rfl] at h
      omega
  · rintro ⟨w, hak⟩
    refine ⟨w.1, fun f hf hS' => ?_, w.2.2⟩
    rw [rv_wa (by omega) (by omega) (by omega)]
    by_cases hfk : f = k
    · rw [if_pos hfk, hfk, hak]
    · rw [if_neg hfk]
      rw [sdl_bit (by omega), decide_eq_true hfk, Bool.and_true] at hS'
      exact w.2.1 f hf hS'
theorem lft_step {c S k v : Nat} (h5 : pn P ≤ 5) (hk : k < pn P) (hv : v < 5) (hS : S.testBit k = true) : lft P c S (pn P) &&& pT P k v = lft P (wa c k (v + 1)) (sdl S k) (pn P) := by
  apply Nat.eq_of_testBit_eq
  intro e
  rw [Bool.eq_iff_iff, Nat.testBit_and, Bool.and_eq_true, lft_bit, lft_bit]
  constructor
  · rintro ⟨⟨h1, h2⟩, h3⟩
    refine ⟨h1, fun f hf hS' => ?_⟩
    rw [rv_wa (by omega) (by omega) (by omega)]
    by_cases hfk : f = k
    · rw [if_pos hfk, hfk, eoa_s]; exact h3
    · rw [if_neg hfk]
      rw [sdl_bit (by omega), decide_eq_true hfk, Bool.and_true] at hS'
      exact h2 f hf hS'
  · rintro ⟨h1, h2⟩
    refine ⟨⟨h1, fun f hf hS' => ?_⟩, ?_⟩
    · have hfk : f ≠ k := fun q => by subst q; rw [hS] at hS'; cases hS'
      have h := h2 f hf (by rw [sdl_bit (by omega), hS']; rfl)
      rw [rv_wa (by omega) (by omega) (by omega), if_neg hfk] at h
      exact h
    · have h := h2 k hk (by rw [sdl_bit (by omega)]; simp)
      rw [rv_wa (by omega) (by omega) (by omega), if_pos rfl, eoa_s] at h
      exact h
/-- what holds behind the fields below k -/
def fwI (P : zPl) (c S k : Nat) (s : Nat × Nat × Nat) : Prop := rOK P s.1 ∧ s.2.1 = lft P s.1 s.2.2 (pn P) ∧ s.2.2 ≤ S ∧ (∀ f, f < pn P → s.2.2.testBit f = (S.testBit f && decide (k ≤ f))) ∧ (∃ a, way P s.1 s.2.2 a) ∧ (∀ a, way P s.1 s.2.2 a → way P c S a) ∧ ∀ a, way P c S a → way P s.1 s.2.2 a ∨ ∃ f, f < k ∧ (∀ i, i < f → a i + 1 = rv s.1 i) ∧ rv s.1 f < a f + 1
theorem cvS_way (hO : pOK P) {c S k : Nat} (hc : rOK P c) (hk : k < pn P) (hS : S.testBit k = true) (hw : ∃ a, way P c S a) {v : Nat} : (cvS P (lft P c S (pn P)) S k).testBit v = true ↔ ∃ a, way P c S a ∧ a k = v := by
  rw [← vIn_iff hO hc hk]
  unfold vIn
  rw [if_pos ((cmd_iff hO hc).mpr hw), if_pos hS]
theorem low_way (hO : pOK P) {c S k : Nat} (hc : rOK P c) (hk : k < pn P) (hS : S.testBit k = true) (hw : ∃ a, way P c S a) : low (cvS P (lft P c S (pn P)) S k) < 5 ∧ (∃ a, way P c S a ∧ a k = low (cvS P (lft P c S (pn P)) S k)) ∧ ∀ a, way P c S a → low (cvS P (lft P c S (pn P)) S k) ≤ a k := by
  rcases low_spec (V := cvS P (lft P c S (pn P)) S k) with ⟨_, h⟩ | ⟨h1, h2, h3⟩
  · obtain ⟨a, w⟩ := hw
    have h1 := w.1 k hk
    have h2 := h (a k) (by have := (hO.2.1 k hk).2.1; omega)
    rw [(cvS_way hO hc hk hS ⟨a, w⟩).mpr ⟨a, w, rfl⟩] at h2
    cases h2
  · refine ⟨h1, (cvS_way hO hc hk hS hw).mp h2, fun a w => ?_⟩
    by_cases q : a k < low (cvS P (lft P c S (pn P)) S k)
    · have h4 := h3 (a k) q
      rw [(cvS_way hO hc hk hS hw).mpr ⟨a, w, rfl⟩] at h4
      cases h4
    · omega
theorem fw_inv (hO : pOK P) {c S : Nat} (hc : rOK P c) (hm : cmd P c S = true) : ∀ k, k ≤ pn P → fwI P c S k (fwN P c (lft P c S (pn P)) S k) := by
  intro k
  induction k with
  | zero =>
    intro _
    refine ⟨hc, rfl, Nat.le_refl _, fun f _ => ?_, (cmd_iff hO hc).mp hm, fun a w => w, fun a w => Or.inl w⟩
    show S.testBit f = _
    rw [decide_eq_true (Nat.zero_le f), Bool.and_true]
  | succ k ih =>
    intro hk
    obtain ⟨h1, h2, h3, h4, h5, h6, h7⟩ := ih (by omega)
    have hn := hO.1
    rw [fwN_s]
    generalize fwN P c (lft P c S (pn P)) S k = s at h1 h2 h3 h4 h5 h6 h7
    have hkb := h4 k (by omega)
    rw [decide_eq_true (Nat.le_refl k), Bool.and_true] at hkb
    cases hS : s.2.2.testBit k with
    | false =>
      rw [if_neg (by decide)]
      refine ⟨h1, h2, h3, fun f hf => ?_, h5, h6, fun a w => ?_⟩
      · rw [h4 f hf]
        by_cases hfk : f = k
        · subst hfk
          rw [← hkb, hS]; rfl
        · rw [show decide (k ≤ f) = decide (k + 1 ≤ f) from decide_eq_decide.mpr (by omega)]
      · rcases h7 a w with q | ⟨f, hf, q⟩
        · exact Or.inl q
        · exact Or.inr ⟨f, by omega, q⟩
    | true =>
      rw [if_pos rfl]
      rw [h2]
      obtain ⟨l1, l2, l3⟩ := low_way hO h1 (by omega : k < pn P) hS h5
      generalize low (cvS P (lft P s.1 s.2.2 (pn P)) s.2.2 k) = v at l1 l2 l3
      have hvq : v < pq P k := by
        obtain ⟨a, w, q⟩ := l2
        rw [← q]
        exact w.1 k (by omega)
      refine ⟨⟨wa_lt h1.1 (by omega) (by omega), fun f hf => ?_, fun f hf hf5 => ?_⟩, ?_, ?_, fun f hf => ?_, ?_, fun a w => ?_, fun a w => ?_⟩
      · dsimp only
        rw [rv_wa (by omega) (by omega) (by omega)]
        split
        · next q => subst q; omega
        · exact h1.2.1 f hf
      · dsimp only
        rw [rv_wa (by omega) (by omega) (by omega), if_neg (by omega)]
        exact h1.2.2 f hf hf5
      · exact lft_step hn (by omega) l1 hS
      · exact Nat.le_trans (sdl_le _ _) h3
      · show (sdl s.2.2 k).testBit f = _
        rw [sdl_bit (by omega), h4 f hf]
        by_cases hfk : f = k
        · subst hfk; simp
        · rw [decide_eq_true hfk, Bool.and_true, show decide (k ≤ f) = decide (k + 1 ≤ f) from decide_eq_decide.mpr (by omega)]
      · obtain ⟨a, w, q⟩ := l2
        exact ⟨a, (way_step hn (by omega) l1 hS a).mpr ⟨w, q⟩⟩
      · exact h6 a ((way_step hn (by omega) l1 hS a).mp w).1
      · rcases h7 a w with q | ⟨f, hf, q1, q2⟩
        · by_cases hak : a k = v
          · exact Or.inl ((way_step hn (by omega) l1 hS a).mpr ⟨q, hak⟩)
          · right
            refine ⟨k, by omega, fun i hi => ?_, ?_⟩
            · dsimp only
              rw [rv_wa (by omega) (by omega) (by omega), if_neg (by omega)]
              exact (q.2.1 i (by omega) (by rw [h4 i (by omega), decide_eq_false (by omega), Bool.and_false])).symm
            · dsimp only
              rw [rv_wa (by omega) (by omega) (by omega), if_pos rfl]
              have := l3 a q
              omega
        · right
          refine ⟨f, by omega, fun i hi => ?_, ?_⟩
          · dsimp only
            rw [rv_wa (by omega) (by omega) (by omega), if_neg (by omega)]
            exact q1 i hi
          · dsimp only
            rw [rv_wa (by omega) (by omega) (by omega), if_neg (by omega)]
            exact q2
theorem fw_spec (hO : pOK P) {c S : Nat} (hc : rOK P c) (hm : cmd P c S = true) : rOK P (fw P c S) ∧ (∀ f, f < pn P → rv (fw P c S) f ≠ 0) ∧ way P c S (fun f => rv (fw P c S) f - 1) ∧ ∀ a, way P c S a → (∀ f, f < pn P → a f + 1 = rv (fw P c S) f) ∨ ∃ f, f < pn P ∧ (∀ i, i < f → a i + 1 = rv (fw P c S) i) ∧ rv (fw P c S) f < a f + 1 := by
  obtain ⟨h1, _, _, h4, ⟨a, w⟩, h6, h7⟩ := fw_inv hO hc hm (pn P) (Nat.le_refl _)
  have hno : ∀ f, f < pn P → (fwN P c (lft P c S (pn P)) S (pn P)).2.2.testBit f = false := fun f hf => by rw [h4 f hf, decide_eq_false (by omega), Bool.and_false]
  have hw : ∀ b, way P (fw P c S) (fwN P c (lft P c S (pn P)) S (pn P)).2.2 b → ∀ f, f < pn P → b f + 1 = rv (fw P c S) f := fun b wb f hf => (wb.2.1 f hf (hno f hf)).symm
  have ha := hw a w
  refine ⟨h1, fun f hf => by have := ha f hf; omega, way_congr (fun f hf => by have := ha f hf; omega) (h6 a w), fun b wb => ?_⟩
  rcases h7 b wb with q | q
  · exact Or.inl (hw b q)
  · exact Or.inr q
theorem e_firstWay (hO : pOK P) (hP : cP P g) (hE : cE P g) (hC : cC P g) {c S : Nat} (hc : rOK P c) (hS : S < 2 ^ pn P) (hm : cmd P c S = true) : nX5_firstWay (nI c) (nI S) g = some (nI (fw P c S)) := by
  have h5 := hO.1
  have h6 := p2m hO
  have h7 := p2n hO
  unfold nX5_firstWay
  rw [e_editsLeft hO hP hE hc]
  dsimp only [Option.bind_some]
  refine wh_seq (fun i => (nI (fwN P c (lft P c S (pn P)) S i).1, nI (fwN P c (lft P c S (pn P)) S i).2.1, nI (fwN P c (lft P c S (pn P)) S i).2.2, nI i)) (pn P) (fun i hi => ?_) ?_
  · dsimp only [wX5_firstWay_16]
    obtain ⟨i1, i2, i3, i4, i5, i6, i7⟩ := fw_inv hO hc hm i (by omega)
    rw [fwN_s]
    generalize fwN P c (lft P c S (pn P)) S i = s at i1 i2 i3 i4 i5 i6 i7
    have hl := lft_lt P s.1 s.2.2 (pn P)
    rw [if_neg (by rw [hP.1, nN_le (by omega) (by omega)]; omega), nI_s]
    cases hSi : s.2.2.testBit i with
    | false => rw [if_pos ((nI_bitg (by omega)).mpr hSi), if_neg (by decide)]
    | true =>
      rw [if_neg (fun q => by rw [(nI_bitg (by omega)).mp q] at hSi; cases hSi), if_pos rfl, i2]
      rw [e_curingValues hO hP hE hC (by omega) (by omega) hi]
      dsimp only [Option.bind_some]
      rw [e_lowestOf]
      dsimp only [Option.bind_some]
      obtain ⟨l1, l2, l3⟩ := low_way hO i1 (by omega : i < pn P) hSi i5
      have hvq : low (cvS P (lft P s.1 s.2.2 (pn P)) s.2.2 i) < pq P i := by
        obtain ⟨a, w, q⟩ := l2
        rw [← q]
        exact w.1 i hi
      generalize low (cvS P (lft P s.1 s.2.2 (pn P)) s.2.2 i) = v at l1 l2 l3 hvq
      rw [if_neg (show ¬ v = 9 by omega)]
      rw [if_neg (show ¬ nI v = (-1 : Int32) from fun q => by rw [nI_m1, nN_eqm (by omega)] at q; exact q)]
      rw [show nX1_withAnswer (nI s.1) (nI i) (nI v) = some (nI (wa s.1 i (v + 1))) by rw [← nJ_s v]; exact e_withAnswer (by omega)]
      dsimp only [Option.bind_some]
      rw [e_editsOfValue hO hE hi hvq]
      dsimp only [Option.bind_some]
      rw [nI_and, nI_shl (by omega), nI_m1, nI_xor, nI_and]
      rfl
  · dsimp only [wX5_firstWay_16]
    rw [if_pos (by rw [hP.1]; exact Int32.le_refl _)]
    rfl
end Fi
