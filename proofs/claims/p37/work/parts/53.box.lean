
/-! ===== boxes: what they are; families ahead of a field and behind it ===== -/
/-- the set of a field in a box's number: five bits a field, field 0 highest -/
def bk (X f : Nat) : Nat := X / 32 ^ (4 - f) % 32
theorem bk_lt (X f : Nat) : bk X f < 32 := Nat.mod_lt _ (by omega)
/-- a form lies in a box, the fields from m to n - 1 looked at -/
def inB (B : Nat → Nat) (m n : Nat) (a : Nat → Nat) : Prop := ∀ f, m ≤ f → f < n → (B f).testBit (a f) = true
/-- a greatest box -/
def gB (P : zPl) (B : Nat → Nat) : Prop := (∀ f, f < pn P → B f ≠ 0 ∧ B f < 2 ^ pq P f) ∧ (∀ a, inB B 0 (pn P) a → fs P a ≠ 0) ∧ ∀ f, f < pn P → ∀ v, v < pq P f → (B f).testBit v = false → ∃ a : Nat → Nat, a f = v ∧ (∀ i, i < pn P → i ≠ f → (B i).testBit (a i) = true) ∧ fs P a = 0
noncomputable def dB (p : Prop) : Bool := @decide p (Classical.propDecidable p)
theorem dB_t {p : Prop} : dB p = true ↔ p := by
  unfold dB
  exact @decide_eq_true_iff p (Classical.propDecidable p)
theorem dB_f {p : Prop} : dB p = false ↔ ¬ p := by
  have h := @dB_t p
  cases q : dB p with
  | false => exact ⟨fun _ k => (by rw [h.mpr k] at q; cases q), fun _ => rfl⟩
  | true => exact ⟨fun k => (by cases k), fun k => absurd (h.mp q) k⟩
/-- a number is a greatest box's -/
noncomputable def gK (P : zPl) (X : Nat) : Bool := dB (pn P ≠ 0 ∧ (∀ f, pn P ≤ f → f < 5 → bk X f = 1) ∧ gB P (bk X))
/-- an edit stays open behind the values of the fields from m to n - 1 -/
def tA (P : zPl) (a : Nat → Nat) (m n e : Nat) : Prop := ∀ f, m ≤ f → f < n → (pT P f (a f)).testBit e = true
/-- some prefix leaves no more open than x -/
def opP (P : zPl) (B : Nat → Nat) (f x : Nat) : Prop := ∃ a, inB B 0 f a ∧ ∀ e, e < 6 → tA P a 0 f e → x.testBit e = true
def owP (P : zPl) (B : Nat → Nat) (f v x : Nat) : Prop := ∃ a, inB B 0 f a ∧ ∀ e, e < 6 → tA P a 0 f e → (pT P f v).testBit e = true → x.testBit e = true
/-- the fields from f on can get rid of x -/
def cuP (P : zPl) (B : Nat → Nat) (f x : Nat) : Prop := ∃ a, inB B f (pn P) a ∧ ∀ e, x.testBit e = true → tA P a f (pn P) e → False
theorem n6_bit {P : zPl} (hO : pOK P) {f v e : Nat} (h : (pT P f v).testBit e = true) : e < 6 := by
  rw [pT_bit, Bool.and_eq_true, decide_eq_true_eq] at h
  have := hO.2.2.2.1
  omega
theorem fs_tA {P : zPl} (hO : pOK P) (hn : pn P ≠ 0) (a : Nat → Nat) : fs P a = 0 ↔ ∀ e, e < 6 → tA P a 0 (pn P) e → False := by
  have hm := hO.2.2.2.1
  rw [b_zero]
  constructor
  · intro h e he hT
    refine h e ((fs_bit _ _ _).mpr ⟨?_, fun f hf => ?_⟩)
    · have h1 := hT 0 (Nat.le_refl 0) (by omega)
      rw [pT_bit, Bool.and_eq_true, decide_eq_true_eq] at h1
      exact h1.1
    · have h1 := hT f (Nat.zero_le f) hf
      rw [pT_bit, Bool.and_eq_true] at h1
      exact h1.2
  · intro h e he
    rw [fs_bit] at he
    exact h e (by omega) (fun f _ hf => by rw [pT_bit, decide_eq_true he.1, he.2 f hf]; rfl)
theorem opP_0 {P : zPl} {B : Nat → Nat} {x : Nat} (hx : x < 64) : opP P B 0 x ↔ x = 63 := by
  constructor
  · rintro ⟨a, _, h⟩
    apply Nat.eq_of_testBit_eq
    intro e
    by_cases he : e < 6
    · have hd : ∀ e, e < 6 → (63 : Nat).testBit e = true := by decide
      rw [h e he (fun f _ hf => absurd hf (Nat.not_lt_zero f)), hd e he]
    · rw [lt64_bit hx he, lt64_bit (x := 63) (by omega) he]
  · intro h
    refine ⟨fun _ => 0, fun f _ hf => absurd hf (Nat.not_lt_zero f), fun e he _ => ?_⟩
    have hd : ∀ e, e < 6 → (63 : Nat).testBit e = true := by decide
    rw [h]
    exact hd e he
/-- values put in the place of one -/
def upA (a : Nat → Nat) (f v : Nat) : Nat → Nat := fun i => if i = f then v else a i
/-- one form ahead of a field, another from it on -/
def glA (a b : Nat → Nat) (f : Nat) : Nat → Nat := fun i => if i < f then a i else b i
theorem opP_met {P : zPl} {B : Nat → Nat} {f v x : Nat} : opP P B f (x ||| zmO (pT P f v) 6) ↔ owP P B f v x := by
  constructor
  · rintro ⟨a, h1, h2⟩
    refine ⟨a, h1, fun e he hT hv => ?_⟩
    have h3 := h2 e he hT
    rw [Nat.testBit_or, zmO_bit, hv] at h3
    simpa using h3
  · rintro ⟨a, h1, h2⟩
    refine ⟨a, h1, fun e he hT => ?_⟩
    rw [Nat.testBit_or, zmO_bit]
    cases hv : (pT P f v).testBit e with
    | true => rw [h2 e he hT hv]; rfl
    | false => simp [he]
theorem owP_up {P : zPl} {B : Nat → Nat} {f v x y : Nat} (h : owP P B f v x) (hxy : ∀ e, x.testBit e = true → y.testBit e = true) : owP P B f v y := by
  obtain ⟨a, h1, h2⟩ := h
  exact ⟨a, h1, fun e he hT hv => hxy e (h2 e he hT hv)⟩
theorem owP_0 {P : zPl} {B : Nat → Nat} {f v x : Nat} (h : owP P B f v 0) : owP P B f v x := owP_up h (fun e q => by rw [Nat.zero_testBit] at q; cases q)
theorem opP_s {P : zPl} {B : Nat → Nat} {f x : Nat} (hB : B f < 2 ^ pq P f) : opP P B (f + 1) x ↔ ∃ v, v < pq P f ∧ (B f).testBit v = true ∧ owP P B f v x := by
  constructor
  · rintro ⟨a, h1, h2⟩
    have hb := h1 f (Nat.zero_le f) (Nat.lt_succ_self f)
    refine ⟨a f, ?_, hb, a, fun i hi hif => h1 i hi (by omega), fun e he hT hv => h2 e he (fun i _ hi => ?_)⟩
    · by_cases q : a f < pq P f
      · exact q
      · rw [Nat.testBit_lt_two_pow (Nat.lt_of_lt_of_le hB (Nat.pow_le_pow_right (by omega) (by omega)))] at hb
        cases hb
    · by_cases q : i = f
      · rw [q]; exact hv
      · exact hT i (Nat.zero_le i) (by omega)
  · rintro ⟨v, _, hb, a, h1, h2⟩
    refine ⟨upA a f v, fun i hi hif => ?_, fun e he hT => h2 e he (fun i _ hi => ?_) ?_⟩
    · unfold upA
      split
      · next q => rw [q]; exact hb
      · exact h1 i hi (by omega)
    · have h3 := hT i (Nat.zero_le i) (by omega)
      unfold upA at h3
      rw [if_neg (by omega)] at h3
      exact h3
    · have h3 := hT f (Nat.zero_le f) (Nat.lt_succ_self f)
      unfold upA at h3
      rw [if_pos rfl] at h3
      exact h3
theorem opP_congr {P : zPl} {B C : Nat → Nat} {f x : Nat} (h : ∀ i, i < f → B i = C i) : opP P B f x ↔ opP P C f x := by
  constructor
  · rintro ⟨a, h1, h2⟩
    exact ⟨a, fun i hi hif => by rw [← h i hif]; exact h1 i hi hif, h2⟩
  · rintro ⟨a, h1, h2⟩
    exact ⟨a, fun i hi hif => by rw [h i hif]; exact h1 i hi hif, h2⟩
theorem owP_congr {P : zPl} {B C : Nat → Nat} {f v x : Nat} (h : ∀ i, i < f → B i = C i) : owP P B f v x ↔ owP P C f v x := by
  constructor
  · rintro ⟨a, h1, h2⟩
    exact ⟨a, fun i hi hif => by rw [← h i hif]; exact h1 i hi hif, h2⟩
  · rintro ⟨a, h1, h2⟩
    exact ⟨a, fun i hi hif => by rw [h i hif]; exact h1 i hi hif, h2⟩
theorem cuP_s {P : zPl} {B : Nat → Nat} {f x : Nat} (hf : f < pn P) (hB : B f < 2 ^ pq P f) : cuP P B f x ↔ ∃ v, v < pq P f ∧ (B f).testBit v = true ∧ cuP P B (f + 1) (x &&& pT P f v) := by
  constructor
  · rintro ⟨a, h1, h2⟩
    have hb := h1 f (Nat.le_refl f) hf
    refine ⟨a f, ?_, hb, a, fun i hi hif => h1 i (by omega) hif, fun e he hT => ?_⟩
    · by_cases q : a f < pq P f
      · exact q
      · rw [Nat.testBit_lt_two_pow (Nat.lt_of_lt_of_le hB (Nat.pow_le_pow_right (by omega) (by omega)))] at hb
        cases hb
    · rw [Nat.testBit_and, Bool.and_eq_true] at he
      refine h2 e he.1 (fun i hi hif => ?_)
      by_cases q : i = f
      · rw [q]; exact he.2
      · exact hT i (by omega) hif
  · rintro ⟨v, _, hb, a, h1, h2⟩
    refine ⟨upA a f v, fun i hi hif => ?_, fun e he hT => h2 e ?_ (fun i hi hif => ?_)⟩
    · unfold upA
      split
      · next q => rw [q]; exact hb
      · exact h1 i (by omega) hif
    · have h3 := hT f (Nat.le_refl f) hf
      unfold upA at h3
      rw [if_pos rfl] at h3
      rw [Nat.testBit_and, he, h3]; rfl
    · have h3 := hT i (by omega) hif
      unfold upA at h3
      rw [if_neg (by omega)] at h3
      exact h3
theorem cuP_n {P : zPl} {B : Nat → Nat} {x : Nat} : cuP P B (pn P) x ↔ x = 0 := by
  constructor
  · rintro ⟨a, _, h⟩
    exact b_zero.mpr (fun e he => h e he (fun i hi hif => by omega))
  · intro h
    exact ⟨fun _ => 0, fun i hi hif => by omega, fun e he => by rw [h, Nat.zero_testBit] at he; cases he⟩
/-- the edits below 6 for which something holds, as bits -/
noncomputable def eS (p : Nat → Prop) : Nat := bS (fun e => dB (p e)) 6
theorem eS_bit (p : Nat → Prop) (e : Nat) : (eS p).testBit e = true ↔ e < 6 ∧ p e := by
  unfold eS
  rw [bS_bit, Bool.and_eq_true, decide_eq_true_eq, dB_t]
theorem eS_lt (p : Nat → Prop) : eS p < 64 := bS_lt _ 6
/-- a further value lets a form of the box pass -/
theorem ow_cu {P : zPl} (hO : pOK P) {B : Nat → Nat} {f v : Nat} (hf : f < pn P) : (∃ x, x < 64 ∧ owP P B f v x ∧ cuP P B (f + 1) x) ↔ ∃ a : Nat → Nat, a f = v ∧ (∀ i, i < pn P → i ≠ f → (B i).testBit (a i) = true) ∧ fs P a = 0 := by
  have hn : pn P ≠ 0 := by omega
  constructor
  · rintro ⟨x, _, ⟨a, a1, a2⟩, ⟨b, b1, b2⟩⟩
    refine ⟨upA (glA a b f) f v, if_pos rfl, fun i hi hif => ?_, (fs_tA hO hn _).mpr (fun e he hT => ?_)⟩
    · unfold upA glA
      rw [if_neg hif]
      split
      · next q => exact a1 i (Nat.zero_le i) q
      · exact b1 i (by omega) hi
    · refine b2 e (a2 e he (fun i _ hi => ?_) ?_) (fun i hi hin => ?_)
      · have h3 := hT i (Nat.zero_le i) (by omega)
        unfold upA glA at h3
        rw [if_neg (by omega), if_pos hi] at h3
        exact h3
      · have h3 := hT f (Nat.zero_le f) hf
        unfold upA at h3
        rw [if_pos rfl] at h3
        exact h3
      · have h3 := hT i (Nat.zero_le i) hin
        unfold upA glA at h3
        rw [if_neg (by omega), if_neg (by omega)] at h3
        exact h3
  · rintro ⟨a, rfl, h1, h2⟩
    rw [fs_tA hO hn] at h2
    refine ⟨eS (fun e => tA P a 0 f e ∧ (pT P f (a f)).testBit e = true), eS_lt _, ⟨a, fun i _ hi => h1 i (by omega) (by omega), fun e he hT hv => (eS_bit _ _).mpr ⟨he, hT, hv⟩⟩, a, fun i hi hin => h1 i hin (by omega), fun e he hT => ?_⟩
    rw [eS_bit] at he
    refine h2 e he.1 (fun i _ hin => ?_)
    by_cases q : i < f
    · exact he.2.1 i (Nat.zero_le i) q
    · by_cases q2 : i = f
      · rw [q2]; exact he.2.2
      · exact hT i (by omega) hin
/-- a set that a further value would not hurt is in no greatest box -/
theorem not_closed {P : zPl} (hO : pOK P) {B : Nat → Nat} {f v : Nat} (hf : f < pn P) (hv : v < pq P f) (hb : (B f).testBit v = false) (hB : gB P B) (h : ∀ x, x < 64 → owP P B f v x → opP P B (f + 1) x) : False := by
  have hn : pn P ≠ 0 := by omega
  obtain ⟨h1, h2, h3⟩ := hB
  obtain ⟨x, hx, hw, b, b1, b2⟩ := (ow_cu hO hf).mpr (h3 f hf v hv hb)
  obtain ⟨a, a1, a2⟩ := h x hx hw
  refine h2 (glA a b (f + 1)) (fun i _ hin => ?_) ((fs_tA hO hn _).mpr (fun e he hT => b2 e (a2 e he (fun i _ hi => ?_)) (fun i hi hin => ?_)))
  · unfold glA
    split
    · next q => exact a1 i (Nat.zero_le i) q
    · exact b1 i (by omega) hin
  · have h4 := hT i (Nat.zero_le i) (by omega)
    unfold glA at h4
    rw [if_pos hi] at h4
    exact h4
  · have h4 := hT i (Nat.zero_le i) hin
    unfold glA at h4
    rw [if_neg (by omega)] at h4
    exact h4
/-- a set's first element -/
theorem ne0_bit {x : Nat} (h : x ≠ 0) : ∃ e, x.testBit e = true := Classical.byContradiction (fun q => h (b_zero.mpr (fun e he => q ⟨e, he⟩)))
/-- a value behind which some form is sure to pass is in no box -/
theorem not_usable {P : zPl} (hO : pOK P) {B : Nat → Nat} {f v : Nat} (hf : f < pn P) (hb : (B f).testBit v = true) (h : owP P B f v 0) (h1 : ∀ i, i < pn P → B i ≠ 0) (h2 : ∀ a, inB B 0 (pn P) a → fs P a ≠ 0) : False := by
  have hn : pn P ≠ 0 := by omega
  obtain ⟨a, a1, a2⟩ := h
  have hc : ∀ i, ∃ v, i < pn P → (B i).testBit v = true := fun i => by
    by_cases q : i < pn P
    · obtain ⟨v, hv⟩ := ne0_bit (h1 i q)
      exact ⟨v, fun _ => hv⟩
    · exact ⟨0, fun q2 => absurd q2 q⟩
  refine h2 (upA (glA a (fun i => Classical.choose (hc i)) f) f v) (fun i _ hin => ?_) ((fs_tA hO hn _).mpr (fun e he hT => ?_))
  · unfold upA glA
    split
    · next q => rw [q]; exact hb
    · split
      · next q => exact a1 i (Nat.zero_le i) q
      · exact Classical.choose_spec (hc i) hin
  · have h5 := a2 e he (fun i _ hi => by
      have h4 := hT i (Nat.zero_le i) (by omega)
      unfold upA glA at h4
      rw [if_neg (by omega), if_pos hi] at h4
      exact h4) (by
      have h4 := hT f (Nat.zero_le f) hf
      unfold upA at h4
      rw [if_pos rfl] at h4
      exact h4)
    rw [Nat.zero_testBit] at h5
    cases h5
/-- all values usable: no form of the box passes -/
theorem all_usable {P : zPl} (hO : pOK P) {B : Nat → Nat} {f : Nat} (hf : f + 1 = pn P) (h : ∀ v, (B f).testBit v = true → ¬ owP P B f v 0) : ∀ a, inB B 0 (pn P) a → fs P a ≠ 0 := by
  intro a ha h0
  refine h (a f) (ha f (Nat.zero_le f) (by omega)) ⟨a, fun i hi hif => ha i hi (by omega), fun e he hT hv => ?_⟩
  rw [fs_tA hO (by omega)] at h0
  exact (h0 e he (fun i _ hin => by
      by_cases q : i = f
      · rw [q]; exact hv
      · exact hT i (Nat.zero_le i) (by omega))).elim
