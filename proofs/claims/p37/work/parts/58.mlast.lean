
/-! ===== the reference's boxes: forms that fail, the last field's values ===== -/
section Ml
variable {P : zPl} {g : zS}
/-- a number is a form that fails -/
def dfB (P : zPl) (x : Nat) : Bool := isF5 P x && fsM P x != 0
theorem fsM_lt (hO : pOK P) (x : Nat) : fsM P x < 64 := by
  have h6 := p2m hO
  unfold fsM
  split
  · have : fs P (vo x) < 2 ^ pm P := bS_lt _ _
    omega
  · omega
theorem m_doesFail (hO : pOK P) (hF : mF P g) {x : Nat} (hx : x < 3125) : nX11_doesFail (nI x) g = some (if dfB P x then 1 else 0) := by
  obtain ⟨f1, f2⟩ := hF x hx
  have hlt := fsM_lt hO x
  unfold nX11_doesFail dfB
  rw [zchk_t (zin_nI hx (by omega)), nI_cl (by omega), f1]
  cases isF5 P x with
  | false => rw [if_pos ((bI_0 false).mpr rfl)]; rfl
  | true =>
    rw [if_neg (fun q => absurd ((bI_0 true).mp q) (by decide)), zchk_t (zin_nI hx (by omega)), f2, Bool.true_and]
    by_cases c : fsM P x = 0
    · rw [if_pos (by rw [c]; rfl), show (fsM P x != 0) = false from by simp [c]]; rfl
    · rw [if_neg (fun q => c ((nN_eq0 (by omega)).mp q)), show (fsM P x != 0) = true from by simp [c]]; rfl
/-- what a loop gives that keeps the bits for which something holds, and ends where none is left -/
theorem wh_and {R : Type} {step : Int32 × Int32 → Option ((Int32 × Int32) ⊕ R)} {M : Nat} (hM0 : 0 < M) (A : Nat) (Q : Nat → Nat → Prop) (out : Nat → R) (h1 : ∀ i t, i < 5 → t < M → t ≠ 0 → A.testBit i = false → step (nI t, nI i) = some (.inl (nI t, nI (i + 1)))) (h2 : ∀ i t, i < 5 → t < M → t ≠ 0 → A.testBit i = true → ∃ u, step (nI t, nI i) = some (.inl (nI u, nI (i + 1))) ∧ u < M ∧ ∀ z, u.testBit z = true ↔ t.testBit z = true ∧ Q i z) (h3 : ∀ t, step (nI t, nI 5) = some (.inr (out t))) (h4 : ∀ i, i < 5 → step (nI 0, nI i) = some (.inr (out 0))) {t0 : Nat} (ht : t0 < M) : ∃ u, wh step (nI t0, nI 0) = some (out u) ∧ u < M ∧ ∀ z, u.testBit z = true ↔ t0.testBit z = true ∧ ∀ i, i < 5 → A.testBit i = true → Q i z := by
  obtain ⟨r, w, u, q1, q2, q3⟩ := wh_post (step := step) (fun s => ∃ i t, i ≤ 5 ∧ t < M ∧ s = (nI t, nI i) ∧ ∀ z, t.testBit z = true ↔ t0.testBit z = true ∧ ∀ j, j < i → A.testBit j = true → Q j z) (fun s => 5 - s.2.toNatClampNeg) (fun r => ∃ u, r = out u ∧ u < M ∧ ∀ z, u.testBit z = true ↔ t0.testBit z = true ∧ ∀ i, i < 5 → A.testBit i = true → Q i z) (fun s hI => by
    obtain ⟨i, t, hi, ht, rfl, hz⟩ := hI
    by_cases c5 : i = 5
    · subst c5
      exact ⟨_, h3 t, t, rfl, ht, hz⟩
    · by_cases c0 : t = 0
      · subst c0
        refine ⟨_, h4 i (by omega), 0, rfl, hM0, fun z => ⟨fun q => (by rw [Nat.zero_testBit] at q; cases q), fun q => ?_⟩⟩
        have := (hz z).mpr ⟨q.1, fun j hj ha => q.2 j (by omega) ha⟩
        exact this
      · cases ha : A.testBit i with
        | false =>
          refine ⟨_, h1 i t (by omega) ht c0 ha, ⟨i + 1, t, by omega, ht, rfl, fun z => ?_⟩, ?_⟩
          · rw [hz z]
            constructor
            · rintro ⟨a, b⟩
              refine ⟨a, fun j hj hb => ?_⟩
              by_cases q : j = i
              · rw [q, ha] at hb; cases hb
              · exact b j (by omega) hb
            · rintro ⟨a, b⟩
              exact ⟨a, fun j hj hb => b j (by omega) hb⟩
          · show 5 - (nI (i + 1)).toNatClampNeg < 5 - (nI i).toNatClampNeg
            rw [nI_cl (by omega), nI_cl (by omega)]; omega
        | true =>
          obtain ⟨u, w, hu, hz2⟩ := h2 i t (by omega) ht c0 ha
          refine ⟨_, w, ⟨i + 1, u, by omega, hu, rfl, fun z => ?_⟩, ?_⟩
          · rw [hz2 z, hz z]
            constructor
            · rintro ⟨⟨a, b⟩, c⟩
              refine ⟨a, fun j hj hb => ?_⟩
              by_cases q : j = i
              · rw [q]; exact c
              · exact b j (by omega) hb
            · rintro ⟨a, b⟩
              exact ⟨⟨a, fun j hj hb => b j (by omega) hb⟩, b i (by omega) ha⟩
          · show 5 - (nI (i + 1)).toNatClampNeg < 5 - (nI i).toNatClampNeg
            rw [nI_cl (by omega), nI_cl (by omega)]; omega) (nI t0, nI 0) ⟨0, t0, by omega, ht, rfl, fun z => ⟨fun q => ⟨q, fun j hj => absurd hj (Nat.not_lt_zero j)⟩, fun q => q.1⟩⟩
  exact ⟨u, by rw [w, q1], q2, q3⟩
theorem wh_and2 {R : Type} {step : Int32 × Int32 → Option ((Int32 × Int32) ⊕ R)} {M : Nat} (N : Nat) (A : Nat) (Q : Nat → Nat → Prop) (out : Nat → R) (h1 : ∀ i t, i < N → t < M → A.testBit i = false → step (nI t, nI i) = some (.inl (nI t, nI (i + 1)))) (h2 : ∀ i t, i < N → t < M → A.testBit i = true → ∃ u, step (nI t, nI i) = some (.inl (nI u, nI (i + 1))) ∧ u < M ∧ ∀ z, u.testBit z = true ↔ t.testBit z = true ∧ Q i z) (h3 : ∀ t, step (nI t, nI N) = some (.inr (out t))) {t0 : Nat} (ht : t0 < M) : ∃ u, wh step (nI t0, nI 0) = some (out u) ∧ u < M ∧ ∀ z, u.testBit z = true ↔ t0.testBit z = true ∧ ∀ i, i < N → A.testBit i = true → Q i z := by
  obtain ⟨r, w, u, q1, q2, q3⟩ := wh_up (step := step) (fun i s => ∃ t, t < M ∧ s = (nI t, nI i) ∧ ∀ z, t.testBit z = true ↔ t0.testBit z = true ∧ ∀ j, j < i → A.testBit j = true → Q j z) (fun r => ∃ u, r = out u ∧ u < M ∧ ∀ z, u.testBit z = true ↔ t0.testBit z = true ∧ ∀ i, i < N → A.testBit i = true → Q i z) N (fun i s hi hI => by
    obtain ⟨t, ht, rfl, hz⟩ := hI
    cases ha : A.testBit i with
    | false =>
      refine ⟨_, h1 i t hi ht ha, t, ht, rfl, fun z => ?_⟩
      rw [hz z]
      constructor
      · rintro ⟨a, b⟩
        refine ⟨a, fun j hj hb => ?_⟩
        by_cases q : j = i
        · rw [q, ha] at hb; cases hb
        · exact b j (by omega) hb
      · rintro ⟨a, b⟩
        exact ⟨a, fun j hj hb => b j (by omega) hb⟩
    | true =>
      obtain ⟨u, w, hu, hz2⟩ := h2 i t hi ht ha
      refine ⟨_, w, u, hu, rfl, fun z => ?_⟩
      rw [hz2 z, hz z]
      constructor
      · rintro ⟨⟨a, b⟩, c⟩
        refine ⟨a, fun j hj hb => ?_⟩
        by_cases q : j = i
        · rw [q]; exact c
        · exact b j (by omega) hb
      · rintro ⟨a, b⟩
        exact ⟨⟨a, fun j hj hb => b j (by omega) hb⟩, b i (by omega) ha⟩) (fun s hI => by
    obtain ⟨t, ht, rfl, hz⟩ := hI
    exact ⟨_, h3 t, t, rfl, ht, hz⟩) (s := (nI t0, nI 0)) ⟨t0, ht, rfl, fun z => ⟨fun q => ⟨q, fun j hj => absurd hj (Nat.not_lt_zero j)⟩, fun q => q.1⟩⟩
  exact ⟨u, by rw [w, q1], q2, q3⟩
/-- the values of the last field that fail behind a number -/
def lbS (P : zPl) (x : Nat) : Nat := bS (fun z => dfB P (x + z)) (mq P 4)
theorem mq32 (hO : pOK P) (f : Nat) : 2 ^ mq P f ≤ 32 := Nat.pow_le_pow_right (n := 2) (by omega) (show mq P f ≤ 5 from (mq_le hO f).2)
theorem m_lastBits (hO : pOK P) (hM : mP P g) (hF : mF P g) {x : Nat} (hx : x + 4 < 3125) : nX11_lastBits (nI x) g = some (nI (lbS P x)) := by
  have hq := mq_le hO 4
  unfold nX11_lastBits lbS
  refine wh_seq (fun i => (nI (bS (fun z => dfB P (x + z)) i), nI i)) (mq P 4) (fun i hi => ?_) ?_
  · dsimp only [wX11_lastBits_4]
    rw [show (4 : Int32) = nI 4 from rfl, m_manyOf hO hM (by omega : 4 < 5), Option.bind_some, if_neg (by rw [nN_le (by omega) (by omega)]; omega), nN_add, m_doesFail hO hF (by omega), Option.bind_some, nI_s, bS_s]
    cases dfB P (x + i) with
    | false => rw [if_pos (show (if false = true then (1 : Int32) else 0) = 0 by decide), show (0 : Int32) = nI 0 from rfl, nI_or, Nat.or_zero, if_neg (by decide)]
    | true => rw [if_neg (show ¬ (if true = true then (1 : Int32) else 0) = 0 by decide), nI_shl (by omega), nI_or, if_pos rfl]
  · dsimp only [wX11_lastBits_4]
    rw [show (4 : Int32) = nI 4 from rfl, m_manyOf hO hM (by omega : 4 < 5), Option.bind_some, if_pos (Int32.le_refl _)]
    rfl
theorem m_threeOf (hO : pOK P) (hM : mP P g) (hF : mF P g) {v w x D : Nat} (hv : v < 5) (hw : w < 5) (hx : x < 5) (hD : D < 32) : ∃ u, nX11_threeOf (nI v) (nI w) (nI x) (nI D) g = some (nI u) ∧ u < 2 ^ mq P 4 ∧ ∀ z, u.testBit z = true ↔ z < mq P 4 ∧ ∀ y, y < 5 → D.testBit y = true → dfB P (625 * v + 125 * w + 25 * x + 5 * y + z) = true := by
  have hq := mq_le hO 4
  have h32 := mq32 hO 4
  have hp := hM.2.2.2.2.2.2.2
  have p0 : g.1 58 0 = nI 625 := hp 0 (by omega)
  have p1 : g.1 58 1 = nI 125 := hp 1 (by omega)
  have p2 : g.1 58 2 = nI 25 := hp 2 (by omega)
  have p3 : g.1 58 3 = nI 5 := hp 3 (by omega)
  have z0 : (0 : Int32).toNatClampNeg = 0 := rfl
  have z1 : (1 : Int32).toNatClampNeg = 1 := rfl
  have z2 : (2 : Int32).toNatClampNeg = 2 := rfl
  have z3 : (3 : Int32).toNatClampNeg = 3 := rfl
  unfold nX11_threeOf
  rw [show (4 : Int32) = nI 4 from rfl, m_all hO hM (by omega : 4 < 5), Option.bind_some, zchk_t (show zin (0 : Int32) 5 = true from zin_nI (i := 0) (by omega) (by omega)), zchk_t (show zin (1 : Int32) 5 = true from zin_nI (i := 1) (by omega) (by omega)), zchk_t (show zin (2 : Int32) 5 = true from zin_nI (i := 2) (by omega) (by omega)), z0, z1, z2, p0, p1, p2, nI_mul, nI_mul, nI_mul, nN_add, nN_add]
  obtain ⟨u, a1, a2, a3⟩ := wh_and2 (M := 2 ^ mq P 4) (step := wX11_threeOf_38 (nI D) (nI (625 * v + 125 * w + 25 * x)) g) 5 D (fun y z => dfB P (625 * v + 125 * w + 25 * x + 5 * y + z) = true) (fun t => nI t) (fun i t hi ht hb => by
    dsimp only [wX11_threeOf_38]
    rw [if_neg (by rw [show (5 : Int32) = nI 5 from rfl, nN_le (by omega) (by omega)]; omega), m_has (by omega) (by omega), Option.bind_some, hb, if_pos (show (if false = true then (1 : Int32) else 0) = 0 by decide), nI_s]) (fun i t hi ht hb => by
    dsimp only [wX11_threeOf_38]
    rw [if_neg (by rw [show (5 : Int32) = nI 5 from rfl, nN_le (by omega) (by omega)]; omega), m_has (by omega) (by omega), Option.bind_some, hb, if_neg (show ¬ (if true = true then (1 : Int32) else 0) = 0 by decide), zchk_t (show zin (3 : Int32) 5 = true from zin_nI (i := 3) (by omega) (by omega)), z3, p3, nI_mul, nN_add, m_lastBits hO hM hF (by omega), Option.bind_some, nI_and, nI_s]
    refine ⟨_, rfl, Nat.lt_of_le_of_lt Nat.and_le_left ht, fun z => ?_⟩
    unfold lbS
    rw [Nat.testBit_and, bS_bit, Bool.and_eq_true, Bool.and_eq_true, decide_eq_true_eq]
    exact ⟨fun h => ⟨h.1, h.2.2⟩, fun h => ⟨h.1, big_bit ht h.1, h.2⟩⟩) (fun t => by
    dsimp only [wX11_threeOf_38]
    rw [if_pos (show (5 : Int32) ≤ nI 5 from Int32.le_refl _)]
    rfl) (t0 := 2 ^ mq P 4 - 1) (by have := Nat.two_pow_pos (mq P 4); omega)
  refine ⟨u, a1, a2, fun z => ?_⟩
  rw [a3 z, m1_bit, decide_eq_true_eq]
theorem m_lastOf (hO : pOK P) (hM : mP P g) (hF : mF P g) {A B C D : Nat} (hA : A < 32) (hB : B < 32) (hC : C < 32) (hD : D < 32) : ∃ u, nX11_lastOf (nI A) (nI B) (nI C) (nI D) g = some (nI u) ∧ u < 2 ^ mq P 4 ∧ ∀ z, u.testBit z = true ↔ z < mq P 4 ∧ ∀ v, v < 5 → A.testBit v = true → ∀ w, w < 5 → B.testBit w = true → ∀ x, x < 5 → C.testBit x = true → ∀ y, y < 5 → D.testBit y = true → dfB P (625 * v + 125 * w + 25 * x + 5 * y + z) = true := by
  have h32 := mq32 hO 4
  have hq := mq_le hO 4
  have c5 : ∀ i, i < 5 → ¬ (5 : Int32) ≤ nI i := fun i hi => by rw [show (5 : Int32) = nI 5 from rfl, nN_le (by omega) (by omega)]; omega
  have n0 : ∀ t, t < 32 → t ≠ 0 → ¬ nI t = 0 := fun t ht h0 q => h0 ((nN_eq0 (by omega)).mp q)
  unfold nX11_lastOf
  rw [show (4 : Int32) = nI 4 from rfl, m_all hO hM (by omega : 4 < 5), Option.bind_some]
  obtain ⟨u, a1, a2, a3⟩ := wh_and (M := 2 ^ mq P 4) (Nat.two_pow_pos _) (step := wX11_lastOf_10 (nI A) (nI B) (nI C) (nI D) g) A (fun v z => ∀ w, w < 5 → B.testBit w = true → ∀ x, x < 5 → C.testBit x = true → ∀ y, y < 5 → D.testBit y = true → dfB P (625 * v + 125 * w + 25 * x + 5 * y + z) = true) (fun t => nI t) (fun v t hv ht h0 hb => by
    dsimp only [wX11_lastOf_10]
    rw [if_neg (c5 v hv), if_neg (n0 t (by omega) h0), m_has (by omega) (by omega), Option.bind_some, hb, if_pos (show (if false = true then (1 : Int32) else 0) = 0 by decide), nI_s]) (fun v t hv ht h0 hb => by
    dsimp only [wX11_lastOf_10]
    rw [if_neg (c5 v hv), if_neg (n0 t (by omega) h0), m_has (by omega) (by omega), Option.bind_some, hb, if_neg (show ¬ (if true = true then (1 : Int32) else 0) = 0 by decide)]
    obtain ⟨u, a1, a2, a3⟩ := wh_and (M := 2 ^ mq P 4) (Nat.two_pow_pos _) (step := wX11_lastOf_36 (nI A) (nI B) (nI C) (nI D) (nI v) g) B (fun w z => ∀ x, x < 5 → C.testBit x = true → ∀ y, y < 5 → D.testBit y = true → dfB P (625 * v + 125 * w + 25 * x + 5 * y + z) = true) (fun t => Sum.inl (nI t, nI (v + 1))) (fun w t hw ht h0 hb => by
      dsimp only [wX11_lastOf_36]
      rw [if_neg (c5 w hw), if_neg (n0 t (by omega) h0), m_has (by omega) (by omega), Option.bind_some, hb, if_pos (show (if false = true then (1 : Int32) else 0) = 0 by decide), nI_s]) (fun w t hw ht h0 hb => by
      dsimp only [wX11_lastOf_36]
      rw [if_neg (c5 w hw), if_neg (n0 t (by omega) h0), m_has (by omega) (by omega), Option.bind_some, hb, if_neg (show ¬ (if true = true then (1 : Int32) else 0) = 0 by decide)]
      obtain ⟨u, a1, a2, a3⟩ := wh_and (M := 2 ^ mq P 4) (Nat.two_pow_pos _) (step := wX11_lastOf_62 (nI A) (nI B) (nI C) (nI D) (nI v) (nI w) g) C (fun x z => ∀ y, y < 5 → D.testBit y = true → dfB P (625 * v + 125 * w + 25 * x + 5 * y + z) = true) (fun t => Sum.inl (nI t, nI (w + 1))) (fun x t hx ht h0 hb => by
        dsimp only [wX11_lastOf_62]
        rw [if_neg (c5 x hx), if_neg (n0 t (by omega) h0), m_has (by omega) (by omega), Option.bind_some, hb, if_pos (show (if false = true then (1 : Int32) else 0) = 0 by decide), nI_s]) (fun x t hx ht h0 hb => by
        dsimp only [wX11_lastOf_62]
        obtain ⟨u, a1, a2, a3⟩ := m_threeOf hO hM hF hv hw hx hD
        rw [if_neg (c5 x hx), if_neg (n0 t (by omega) h0), m_has (by omega) (by omega), Option.bind_some, hb, if_neg (show ¬ (if true = true then (1 : Int32) else 0) = 0 by decide), a1, Option.bind_some, nI_and, nI_s]
        refine ⟨_, rfl, Nat.lt_of_le_of_lt Nat.and_le_left ht, fun z => ?_⟩
        rw [Nat.testBit_and, Bool.and_eq_true, a3 z]
        exact ⟨fun h => ⟨h.1, h.2.2⟩, fun h => ⟨h.1, big_bit ht h.1, h.2⟩⟩) (fun t => by
        dsimp only [wX11_lastOf_62]
        rw [if_pos (show (5 : Int32) ≤ nI 5 from Int32.le_refl _), nI_s]
        rfl) (fun i hi => by
        dsimp only [wX11_lastOf_62]
        rw [if_neg (c5 i hi), if_pos (show nI 0 = 0 from rfl), nI_s]
        rfl) ht
      exact ⟨u, a1, a2, a3⟩) (fun t => by
      dsimp only [wX11_lastOf_36]
      rw [if_pos (show (5 : Int32) ≤ nI 5 from Int32.le_refl _), nI_s]
      rfl) (fun i hi => by
      dsimp only [wX11_lastOf_36]
      rw [if_neg (c5 i hi), if_pos (show nI 0 = 0 from rfl), nI_s]
      rfl) ht
    exact ⟨u, a1, a2, a3⟩) (fun t => by
    dsimp only [wX11_lastOf_10]
    rw [if_pos (show (5 : Int32) ≤ nI 5 from Int32.le_refl _)]
    rfl) (fun i hi => by
    dsimp only [wX11_lastOf_10]
    rw [if_neg (c5 i hi), if_pos (show nI 0 = 0 from rfl)]
    rfl) (t0 := 2 ^ mq P 4 - 1) (by have := Nat.two_pow_pos (mq P 4); omega)
  refine ⟨u, a1, a2, fun z => ?_⟩
  rw [a3 z, m1_bit, decide_eq_true_eq]
end Ml
