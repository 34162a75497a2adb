
/-! ===== ways: what a set that mends means ===== -/
/-- what stays of edits behind the values of the fields of a set below n -/
def red (P : zPl) (S x : Nat) (a : Nat → Nat) (n : Nat) : Nat := foN (fun f y => if S.testBit f then y &&& pT P f (a f) else y) n x
theorem red_s (P : zPl) (S x : Nat) (a : Nat → Nat) (n : Nat) : red P S x a (n + 1) = if S.testBit n then red P S x a n &&& pT P n (a n) else red P S x a n := rfl
theorem red_bit (P : zPl) (S x : Nat) (a : Nat → Nat) (e : Nat) : ∀ n, (red P S x a n).testBit e = true ↔ x.testBit e = true ∧ ∀ f, f < n → S.testBit f = true → (pT P f (a f)).testBit e = true := by
  intro n
  induction n with
  | zero => exact ⟨fun h => ⟨h, fun f hf => absurd hf (Nat.not_lt_zero f)⟩, fun h => h.1⟩
  | succ n ih =>
    rw [red_s]
    by_cases hn : S.testBit n = true
    · rw [if_pos hn, Nat.testBit_and, Bool.and_eq_true, ih]
      constructor
      · rintro ⟨⟨h1, h2⟩, h3⟩
        refine ⟨h1, fun f hf hS => ?_⟩
        rcases Nat.lt_succ_iff_lt_or_eq.mp hf with h | h
        · exact h2 f h hS
        · subst h; exact h3
      · rintro ⟨h1, h2⟩
        exact ⟨⟨h1, fun f hf hS => h2 f (by omega) hS⟩, h2 n (by omega) hn⟩
    · rw [if_neg hn, ih]
      constructor
      · rintro ⟨h1, h2⟩
        refine ⟨h1, fun f hf hS => ?_⟩
        rcases Nat.lt_succ_iff_lt_or_eq.mp hf with h | h
        · exact h2 f h hS
        · subst h; exact absurd hS hn
      · rintro ⟨h1, h2⟩
        exact ⟨h1, fun f hf hS => h2 f (by omega) hS⟩
theorem b_zero {x : Nat} : x = 0 ↔ ∀ e, x.testBit e = true → False := ⟨fun h e q => (by rw [h, Nat.zero_testBit] at q; cases q), fun h => Nat.eq_of_testBit_eq (fun e => by rw [Nat.zero_testBit]; cases q : x.testBit e; rfl; exact (h e q).elim)⟩
theorem cur_iff (P : zPl) (S : Nat) : ∀ n, (∀ f, f < n → 1 ≤ pq P f) → ∀ x, cur P S n x = true ↔ ∃ a : Nat → Nat, (∀ f, f < n → a f < pq P f) ∧ red P S x a n = 0 := by
  intro n
  induction n with
  | zero => intro _ x; exact ⟨fun h => ⟨fun _ => 0, fun f hf => absurd hf (Nat.not_lt_zero f), beq_iff_eq.mp h⟩, fun ⟨a, _, h⟩ => beq_iff_eq.mpr h⟩
  | succ n ih =>
    intro hq x
    have ih' := ih (fun f hf => hq f (by omega))
    have e : cur P S (n + 1) x = if S.testBit n then anN (fun v => cur P S n (x &&& pT P n v)) (pq P n) else cur P S n x := rfl
    rw [e]
    by_cases hn : S.testBit n = true
    · rw [if_pos hn, anN_iff]
      constructor
      · rintro ⟨v, hv, h⟩
        obtain ⟨a, ha, h0⟩ := (ih' _).mp h
        refine ⟨fun f => if f = n then v else a f, fun f hf => ?_, ?_⟩
        · dsimp only
          split
          · next q => subst q; exact hv
          · next q => exact ha f (by omega)
        · rw [b_zero]
          intro e he
          rw [red_bit] at he
          refine b_zero.mp h0 e ((red_bit _ _ _ _ _ _).mpr ⟨?_, fun f hf hS => ?_⟩)
          · have h3 := he.2 n (by omega) hn
            rw [if_pos rfl] at h3
            rw [Nat.testBit_and, he.1, h3]; rfl
          · have h3 := he.2 f (by omega) hS
            rw [if_neg (by omega)] at h3
            exact h3
      · rintro ⟨a, ha, h0⟩
        refine ⟨a n, ha n (by omega), (ih' _).mpr ⟨a, fun f hf => ha f (by omega), ?_⟩⟩
        rw [b_zero]
        intro e he
        rw [red_bit, Nat.testBit_and, Bool.and_eq_true] at he
        refine b_zero.mp h0 e ((red_bit _ _ _ _ _ _).mpr ⟨he.1.1, fun f hf hS => ?_⟩)
        rcases Nat.lt_succ_iff_lt_or_eq.mp hf with h | h
        · exact he.2 f h hS
        · subst h; exact he.1.2
    · rw [if_neg hn, ih' x]
      constructor
      · rintro ⟨a, ha, h0⟩
        refine ⟨fun f => if f = n then 0 else a f, fun f hf => ?_, ?_⟩
        · dsimp only
          split
          · next q => subst q; exact hq f (by omega)
          · next q => exact ha f (by omega)
        · rw [b_zero]
          intro e he
          rw [red_bit] at he
          refine b_zero.mp h0 e ((red_bit _ _ _ _ _ _).mpr ⟨he.1, fun f hf hS => ?_⟩)
          have h3 := he.2 f (by omega) hS
          rw [if_neg (by omega)] at h3
          exact h3
      · rintro ⟨a, ha, h0⟩
        refine ⟨a, fun f hf => ha f (by omega), ?_⟩
        rw [red_s, if_neg hn] at h0
        exact h0
/-- the edits that a form fails -/
def fs (P : zPl) (a : Nat → Nat) : Nat := bS (fun e => decide (∀ f, f < pn P → (pE P e f).testBit (a f) = true)) (pm P)
theorem fs_bit (P : zPl) (a : Nat → Nat) (e : Nat) : (fs P a).testBit e = true ↔ e < pm P ∧ ∀ f, f < pn P → (pE P e f).testBit (a f) = true := by
  unfold fs
  rw [bS_bit, Bool.and_eq_true, decide_eq_true_eq, decide_eq_true_eq]
theorem fs_congr (P : zPl) {a b : Nat → Nat} (h : ∀ f, f < pn P → a f = b f) : fs P a = fs P b := bS_congr _ (fun e _ => decide_eq_decide.mpr ⟨fun q f hf => by rw [← h f hf]; exact q f hf, fun q f hf => by rw [h f hf]; exact q f hf⟩)
/-- the form a is one of the ways by S for the row c -/
def way (P : zPl) (c S : Nat) (a : Nat → Nat) : Prop := (∀ f, f < pn P → a f < pq P f) ∧ (∀ f, f < pn P → S.testBit f = false → rv c f = a f + 1) ∧ fs P a = 0
theorem way_congr {P : zPl} {c S : Nat} {a b : Nat → Nat} (h : ∀ f, f < pn P → a f = b f) (w : way P c S a) : way P c S b := ⟨fun f hf => by rw [← h f hf]; exact w.1 f hf, fun f hf hS => by rw [← h f hf]; exact w.2.1 f hf hS, by rw [← fs_congr P h]; exact w.2.2⟩
theorem eoa_s (P : zPl) (f v : Nat) : eoa P f (v + 1) = pT P f v := if_neg (Nat.succ_ne_zero v)
/-- values of the fields of S, the row's elsewhere -/
def mixA (c S : Nat) (a : Nat → Nat) : Nat → Nat := fun f => if S.testBit f then a f else rv c f - 1
theorem way_mix {P : zPl} {c S : Nat} (hc : rOK P c) (hm : ∀ f, f < pn P → rv c f = 0 → S.testBit f = true) {a : Nat → Nat} (ha : ∀ f, f < pn P → S.testBit f = true → a f < pq P f) (h0 : ∀ e, e < pm P → (∀ f, f < pn P → S.testBit f = false → (eoa P f (rv c f)).testBit e = true) → (∀ f, f < pn P → S.testBit f = true → (pT P f (a f)).testBit e = true) → False) : way P c S (mixA c S a) := by
  have hr : ∀ f, f < pn P → S.testBit f = false → rv c f = rv c f - 1 + 1 := fun f hf hS => by
    have : rv c f ≠ 0 := fun q => by rw [hm f hf q] at hS; cases hS
    omega
  refine ⟨fun f hf => ?_, fun f hf hS => ?_, b_zero.mpr (fun e he => ?_)⟩
  · unfold mixA
    split
    · next q => exact ha f hf q
    · next q => have h1 := hr f hf (by simpa using q); have h2 := hc.2.1 f hf; omega
  · unfold mixA
    rw [if_neg (by rw [hS]; decide)]
    exact hr f hf hS
  · rw [fs_bit] at he
    refine h0 e he.1 (fun f hf hS => ?_) (fun f hf hS => ?_)
    · have h2 := he.2 f hf
      unfold mixA at h2
      rw [if_neg (by rw [hS]; decide)] at h2
      rw [hr f hf hS, eoa_s, pT_bit, h2, decide_eq_true he.1]; rfl
    · have h2 := he.2 f hf
      unfold mixA at h2
      rw [if_pos hS] at h2
      rw [pT_bit, h2, decide_eq_true he.1]; rfl
theorem way_bits {P : zPl} {c S : Nat} {a : Nat → Nat} (w : way P c S a) {e : Nat} (h1 : e < pm P) (h2 : ∀ f, f < pn P → S.testBit f = false → (eoa P f (rv c f)).testBit e = true) (h3 : ∀ f, f < pn P → S.testBit f = true → (pT P f (a f)).testBit e = true) : False := by
  refine b_zero.mp w.2.2 e ((fs_bit _ _ _).mpr ⟨h1, fun f hf => ?_⟩)
  cases hS : S.testBit f with
  | true => have h := h3 f hf hS; rw [pT_bit, decide_eq_true h1] at h; exact h
  | false => have h := h2 f hf hS; rw [w.2.1 f hf hS, eoa_s, pT_bit, decide_eq_true h1] at h; exact h
theorem cmd_iff {P : zPl} (hO : pOK P) {c S : Nat} (hc : rOK P c) : cmd P c S = true ↔ ∃ a, way P c S a := by
  unfold cmd
  rw [Bool.and_eq_true, mSb_iff hO.1, cur_iff P S (pn P) (fun f hf => by have := (hO.2.1 f hf).1; omega)]
  constructor
  · rintro ⟨hm, a, ha, h0⟩
    refine ⟨_, way_mix hc hm (a := a) (fun f hf _ => ha f hf) (fun e h1 h2 h3 => ?_)⟩
    exact b_zero.mp h0 e ((red_bit _ _ _ _ _ _).mpr ⟨(lft_bit _ _ _ _ _).mpr ⟨h1, h2⟩, h3⟩)
  · rintro ⟨a, w⟩
    refine ⟨fun f hf h => ?_, a, w.1, b_zero.mpr (fun e he => ?_)⟩
    · cases hS : S.testBit f with
      | true => rfl
      | false => rw [w.2.1 f hf hS] at h; omega
    · rw [red_bit, lft_bit] at he
      exact way_bits w he.1.1 he.1.2 he.2
theorem vIn_iff {P : zPl} (hO : pOK P) {c S f v : Nat} (hc : rOK P c) (hf : f < pn P) : (vIn P c S f).testBit v = true ↔ ∃ a, way P c S a ∧ a f = v := by
  have h5 := hO.1
  unfold vIn
  cases hm : cmd P c S with
  | false =>
    rw [if_neg (by decide), Nat.zero_testBit]
    exact ⟨fun h => (by cases h), fun ⟨a, w, _⟩ => (by rw [(cmd_iff hO hc).mpr ⟨a, w⟩] at hm; cases hm)⟩
  | true =>
    rw [if_pos rfl]
    have hm' := hm
    unfold cmd at hm'
    rw [Bool.and_eq_true, mSb_iff hO.1] at hm'
    cases hS : S.testBit f with
    | false =>
      rw [if_neg (by decide), Nat.testBit_two_pow]
      constructor
      · intro h
        obtain ⟨a, w⟩ := (cmd_iff hO hc).mp hm
        refine ⟨a, w, ?_⟩
        have h1 := w.2.1 f hf hS
        have h2 := of_decide_eq_true h
        omega
      · rintro ⟨a, w, rfl⟩
        have h1 := w.2.1 f hf hS
        exact decide_eq_true (by omega)
    | true =>
      rw [if_pos rfl]
      unfold cvS
      rw [bS_bit, Bool.and_eq_true, decide_eq_true_eq, cur_iff P _ (pn P) (fun f hf => by have := (hO.2.1 f hf).1; omega)]
      constructor
      · rintro ⟨hv, a, ha, h0⟩
        refine ⟨mixA c S (fun i => if i = f then v else a i), way_mix hc hm'.1 (fun i hi _ => ?_) (fun e h1 h2 h3 => ?_), ?_⟩
        · show (if i = f then v else a i) < pq P i
          split
          · next q => subst q; exact hv
          · exact ha i hi
        · refine b_zero.mp h0 e ((red_bit _ _ _ _ _ _).mpr ⟨?_, fun i hi hSi => ?_⟩)
          · have h4 := h3 f hf hS
            rw [if_pos rfl] at h4
            rw [Nat.testBit_and, (lft_bit _ _ _ _ _).mpr ⟨h1, h2⟩, h4]; rfl
          · rw [sdl_bit (by omega), Bool.and_eq_true, decide_eq_true_eq] at hSi
            have h4 := h3 i hi hSi.1
            rw [if_neg hSi.2] at h4
            exact h4
        · unfold mixA
          rw [if_pos hS]
          exact if_pos rfl
      · rintro ⟨a, w, rfl⟩
        refine ⟨w.1 f hf, a, w.1, b_zero.mpr (fun e he => ?_)⟩
        rw [red_bit, Nat.testBit_and, Bool.and_eq_true, lft_bit] at he
        refine way_bits w he.1.1.1 he.1.1.2 (fun i hi hSi => ?_)
        by_cases hif : i = f
        · subst hif; exact he.1.2
        · exact he.2 i hi (by rw [sdl_bit (by omega), hSi, decide_eq_true hif]; rfl)
