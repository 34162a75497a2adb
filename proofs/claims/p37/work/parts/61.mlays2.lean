
/-! ===== the reference's boxes, all fields ===== -/
section Mz
variable {P : zPl} {g : zS} {D : Nat → Nat}
theorem mL_set (hO : pOK P) {f S : Nat} (hf : f < 5) (hD : ∀ i, i < f → D i < 32) (hS : S < 32) (h : S = 0 ∨ 2 ^ mq P f ≤ S) (hm : mL P (kx D f + S * 32 ^ (4 - f)) g) : mL P (kx D f + (S + 1) * 32 ^ (4 - f)) g := by
  refine mL_skip hm (Nat.add_le_add_left (Nat.mul_le_mul_right _ (Nat.le_succ S)) _) (fun Y h1 h2 => ?_)
  cases hg : gK P Y with
  | false => rfl
  | true =>
    have h3 := ((gK_gM hO Y).mp hg).1 f hf
    rw [(kx_part hf hD hS h1 h2).2] at h3
    omega
theorem mL_end (hO : pOK P) {f : Nat} (hf : f < 5) (hD : ∀ i, i < f → D i < 32) (hm : mL P (kx D f + 2 ^ mq P f * 32 ^ (4 - f)) g) : mL P (kx D f + 32 ^ (5 - f)) g := by
  have h32 := mq32 hO f
  have go : ∀ d, 2 ^ mq P f + d ≤ 32 → mL P (kx D f + (2 ^ mq P f + d) * 32 ^ (4 - f)) g := by
    intro d
    induction d with
    | zero => intro _; exact hm
    | succ d ih => intro hd; exact mL_set (S := 2 ^ mq P f + d) hO hf hD (by omega) (Or.inr (by omega)) (ih (by omega))
  have h := go (32 - 2 ^ mq P f) (by omega)
  rw [show 2 ^ mq P f + (32 - 2 ^ mq P f) = 32 by omega] at h
  rw [show 5 - f = (4 - f) + 1 by omega, Nat.pow_succ, Nat.mul_comm]
  exact h
/-- a loop over the sets of a field -/
theorem wh_sets {R : Type} {step : Int32 × zS → Option ((Int32 × zS) ⊕ R)} {K W M : Nat} (hM : 1 ≤ M) (F : zS → Prop) (out : zS → R) (hs : ∀ i s, 1 ≤ i → i < M → F s → mL P (K + i * W) s → ∃ s', step (nI i, s) = some (.inl (nI (i + 1), s')) ∧ F s' ∧ mL P (K + (i + 1) * W) s') (he : ∀ s, F s → step (nI M, s) = some (.inr (out s))) {s : zS} (h1 : F s) (h2 : mL P (K + 1 * W) s) : ∃ s', wh step ((1 : Int32), s) = some (out s') ∧ F s' ∧ mL P (K + M * W) s' := by
  obtain ⟨r, w, s', q1, q2, q3⟩ := wh_up (step := step) (fun j (t : Int32 × zS) => t.1 = nI (j + 1) ∧ F t.2 ∧ mL P (K + (j + 1) * W) t.2) (fun r => ∃ s', r = out s' ∧ F s' ∧ mL P (K + M * W) s') (M - 1) (fun j t hj hI => by
    obtain ⟨i1, i2, i3⟩ := hI
    obtain ⟨t1, t2⟩ := t
    dsimp only at i1 i2 i3
    rw [i1]
    obtain ⟨s', w, a1, a2⟩ := hs (j + 1) t2 (by omega) (by omega) i2 i3
    exact ⟨_, w, rfl, a1, a2⟩) (fun t hI => by
    obtain ⟨i1, i2, i3⟩ := hI
    obtain ⟨t1, t2⟩ := t
    dsimp only at i1 i2 i3
    rw [show M - 1 + 1 = M by omega] at i1 i3
    rw [i1]
    exact ⟨_, he t2 i2, t2, rfl, i2, i3⟩) (s := ((1 : Int32), s)) ⟨rfl, h1, h2⟩
  exact ⟨s', by rw [w, q1], q2, q3⟩
/-- the last field's values behind each value of the field ahead -/
def b60 (P : zPl) (D : Nat → Nat) (n : Nat) (g : zS) : Prop := ∀ y, y < n → ∃ u, g.1 60 y = nI u ∧ u < 2 ^ mq P 4 ∧ ∀ z, u.testBit z = true ↔ z < mq P 4 ∧ lsP P (upA D 3 (2 ^ y)) z
theorem lsP_and {z d : Nat} (hd : d < 32) : (∀ y, y < 5 → d.testBit y = true → lsP P (upA D 3 (2 ^ y)) z) ↔ lsP P (upA D 3 d) z := by
  constructor
  · intro h a ha haz
    have h3 := ha 3 (by omega)
    unfold upA at h3
    rw [if_pos rfl] at h3
    refine h (a 3) (big_bit (n := 5) hd h3) h3 a (fun f hf => ?_) haz
    by_cases q : f = 3
    · rw [q]
      unfold upA
      rw [if_pos rfl, Nat.testBit_two_pow_self]
    · have h4 := ha f hf
      unfold upA at h4 ⊢
      rw [if_neg q] at h4 ⊢
      exact h4
  · intro h y _ hb a ha haz
    refine h a (fun f hf => ?_) haz
    by_cases q : f = 3
    · have h4 := ha f hf
      unfold upA at h4 ⊢
      rw [if_pos q] at h4 ⊢
      rw [Nat.testBit_two_pow, decide_eq_true_eq] at h4
      rw [← h4]
      exact hb
    · have h4 := ha f hf
      unfold upA at h4 ⊢
      rw [if_neg q] at h4 ⊢
      exact h4
theorem kx_3 {d : Nat} : kx (upA D 3 d) 4 = kx D 3 + d * 32 := by
  rw [kx_s, kx_congr (C := D) 3 (fun i hi => by unfold upA; rw [if_neg (by omega)])]
  rfl
/-- one set of the fourth field -/
theorem m_lays131 (hO : pOK P) (hM : mP P g) (hF : mF P g) (hD : ∀ i, i < 3 → D i ≠ 0 ∧ D i < 2 ^ mq P i) {d : Nat} (hd0 : d ≠ 0) (hd : d < 2 ^ mq P 3) (h60 : b60 P D (mq P 3) g) {L : Nat} (hL : L < 2 ^ mq P 4) (hz : ∀ z, L.testBit z = true ↔ z < mq P 4 ∧ lsP P (upA D 3 d) z) {s : Int32} (hs : (s = 1 ∧ L ≠ 0 ∧ cnt (gK P) (kx D 3 + d * 32) < 30000) ∨ (s = 0 ∧ (30000 ≤ cnt (gK P) (kx D 3 + d * 32) ∨ L = 0))) (hm : mL P (kx D 3 + d * 32) g) : ∃ h, wh (wX11_laysBoxes__131 (nI (D 0)) (nI (D 1)) (nI (D 2)) (nI d) (nI L) g) (s, (0 : Int32)) = some (.inl (nI (d + 1), h)) ∧ lyB g h ∧ h.1 60 = g.1 60 ∧ mL P (kx D 3 + (d + 1) * 32) h := by
  have hq3 := mq_le hO 3
  have h323 := mq32 hO 3
  have h324 := mq32 hO 4
  have hD4 : ∀ i, i < 4 → upA D 3 d i ≠ 0 ∧ upA D 3 d i < 2 ^ mq P i := fun i hi => by
    unfold upA
    by_cases q : i = 3
    · rw [if_pos q, q]; exact ⟨hd0, hd⟩
    · rw [if_neg q]; exact hD i (by omega)
  have hq4 : ∀ i, i < 4 → upA D 3 d i < 32 := fun i hi => Nat.lt_of_lt_of_le (hD4 i hi).2 (mq32 hO i)
  have fin : ∀ s : Int32, ((s = 1 ∧ L ≠ 0 ∧ cnt (gK P) (kx D 3 + d * 32) < 30000) ∨ (s = 0 ∧ (30000 ≤ cnt (gK P) (kx D 3 + d * 32) ∨ ∀ Y, kx D 3 + d * 32 ≤ Y → Y < kx D 3 + d * 32 + 32 → gK P Y = false))) → ∃ r, (zex (jX11_laysBoxes__184 (nI (D 0)) (nI (D 1)) (nI (D 2)) (nI d) (nI L) s g) : Option ((Int32 × Int32) ⊕ ((Int32 × zS) ⊕ zS))) = some (.inr r) ∧ ∃ h, r = .inl (nI (d + 1), h) ∧ lyB g h ∧ h.1 60 = g.1 60 ∧ mL P (kx D 3 + (d + 1) * 32) h := fun s hs => by
    obtain ⟨h, w, a1, a2, a3⟩ := m_lays184 (D := upA D 3 d) (s := s) hO hM hF hD4 hL hz (by rw [kx_3]; exact hs) (by rw [kx_3]; exact hm)
    refine ⟨_, ?_, h, rfl, a1, a2, ?_⟩
    · have e : jX11_laysBoxes__184 (nI (D 0)) (nI (D 1)) (nI (D 2)) (nI d) (nI L) s g = some (Sum.inl (nI (d + 1), h)) := w
      rw [e]
      rfl
    · rw [kx_3] at a3
      rw [Nat.add_mul, Nat.one_mul, ← Nat.add_assoc]
      exact a3
  have hL0 : L = 0 → ∀ Y, kx D 3 + d * 32 ≤ Y → Y < kx D 3 + d * 32 + 32 → gK P Y = false := fun h0 Y h1 h2 => by
    cases hg : gK P Y with
    | false => rfl
    | true =>
      exfalso
      have h3 := part_box (D := upA D 3 d) hO hq4 hz (Y := Y) (by rw [kx_3]; exact h1) (by rw [kx_3]; exact h2) hg
      exact (h3.2.1 4 (by omega)).1 (by unfold upA; rw [if_pos rfl, h0])
  obtain ⟨r, w, h, q1, q2⟩ := wh_post (step := wX11_laysBoxes__131 (nI (D 0)) (nI (D 1)) (nI (D 2)) (nI d) (nI L) g) (fun t => ∃ y, y ≤ mq P 3 ∧ t.2 = nI y ∧ ((t.1 = 1 ∧ L ≠ 0 ∧ cnt (gK P) (kx D 3 + d * 32) < 30000) ∨ (t.1 = 0 ∧ (30000 ≤ cnt (gK P) (kx D 3 + d * 32) ∨ ∀ Y, kx D 3 + d * 32 ≤ Y → Y < kx D 3 + d * 32 + 32 → gK P Y = false)))) (fun t => 5 - t.2.toNatClampNeg) (fun r => ∃ h, r = .inl (nI (d + 1), h) ∧ lyB g h ∧ h.1 60 = g.1 60 ∧ mL P (kx D 3 + (d + 1) * 32) h) (fun t hI => by
    obtain ⟨y, hy, i1, i2⟩ := hI
    obtain ⟨t1, t2⟩ := t
    dsimp only at i1 i2
    dsimp only [wX11_laysBoxes__131]
    rw [show (3 : Int32) = nI 3 from rfl, m_manyOf hO hM (by omega : 3 < 5), Option.bind_some, i1]
    by_cases c : y = mq P 3
    · rw [if_pos (by rw [c]; exact Int32.le_refl _)]
      obtain ⟨r, w, hr⟩ := fin t1 i2
      exact ⟨_, w, hr⟩
    · rw [if_neg (by rw [nN_le (by omega) (by omega)]; omega)]
      have hmu : 5 - (nI (y + 1)).toNatClampNeg < 5 - (nI y).toNatClampNeg := by rw [nI_cl (by omega), nI_cl (by omega)]; omega
      rcases i2 with ⟨rfl, j1, j2⟩ | ⟨rfl, j⟩
      · rw [if_neg (show ¬ (1 : Int32) = 0 by decide), m_has (by omega) (by omega), Option.bind_some, nI_s]
        cases hb : d.testBit y with
        | true =>
          rw [if_neg (show ¬ (if true = true then (1 : Int32) else 0) = 0 by decide)]
          exact ⟨_, rfl, ⟨y + 1, by omega, rfl, Or.inl ⟨rfl, j1, j2⟩⟩, hmu⟩
        | false =>
          have hmu2 : 5 - (nI (y + 1)).toNatClampNeg < 5 - y := by rw [nI_cl (by omega)]; omega
          obtain ⟨u, u1, u2, u3⟩ := h60 y (by omega)
          have hle : L &&& (u ^^^ 4294967295) ≤ L := Nat.and_le_left
          rw [if_pos (show (if false = true then (1 : Int32) else 0) = 0 by decide), zchk_t (zin_nI (by omega) (by omega)), nI_cl (by omega), u1, nI_m1, nI_xor, nI_and]
          by_cases c2 : L &&& (u ^^^ 4294967295) = 0
          · rw [if_pos (by rw [c2]; rfl)]
            refine ⟨_, rfl, ⟨y + 1, by omega, rfl, Or.inr ⟨rfl, Or.inr (fun Y h1 h2 => ?_)⟩⟩, hmu2⟩
            cases hg : gK P Y with
            | false => rfl
            | true =>
              exfalso
              have h3 := part_box (D := upA D 3 d) hO hq4 hz (Y := Y) (by rw [kx_3]; exact h1) (by rw [kx_3]; exact h2) hg
              have h4 := ((gM_iff hO hL hz hD4).mp h3.2).2 3 (by omega) y (by omega) (by unfold upA; rw [if_pos rfl]; exact hb)
              refine h4 (fun z hzL => ?_)
              have h5 := ((u3 z).mp ((sub_not (show L < 32 by omega)).mp c2 z hzL)).2
              refine (lsP_congr (fun f hf => ?_)).mp h5
              unfold upA
              by_cases q : f = 3
              · rw [if_pos q, if_pos q]
              · rw [if_neg q, if_neg q, if_neg q]
          · rw [if_neg (fun q => c2 ((nN_eq0 (by omega)).mp q))]
            exact ⟨_, rfl, ⟨y + 1, by omega, rfl, Or.inl ⟨rfl, j1, j2⟩⟩, hmu2⟩
      · rw [if_pos rfl]
        obtain ⟨r, w, hr⟩ := fin 0 (Or.inr ⟨rfl, j⟩)
        exact ⟨_, w, hr⟩) (s, (0 : Int32)) ⟨0, Nat.zero_le _, rfl, by
    rcases hs with h | ⟨h, k⟩
    · exact Or.inl h
    · rcases k with k | k
      · exact Or.inr ⟨h, Or.inl k⟩
      · exact Or.inr ⟨h, Or.inr (hL0 k)⟩⟩
  exact ⟨h, by rw [w, q1], q2⟩
theorem m_lays60 (hO : pOK P) (hM : mP P g) (hF : mF P g) (hD : ∀ i, i < 3 → D i ≠ 0 ∧ D i < 2 ^ mq P i) {d : Nat} (hd0 : d ≠ 0) (hd : d < 2 ^ mq P 3) (h60 : b60 P D (mq P 3) g) (hm : mL P (kx D 3 + d * 32) g) : ∃ h, wh (wX11_laysBoxes__60 (nI (D 0)) (nI (D 1)) (nI (D 2)) (nI d) g) (nI (2 ^ mq P 4 - 1), (0 : Int32)) = some (.inl (nI (d + 1), h)) ∧ lyB g h ∧ h.1 60 = g.1 60 ∧ mL P (kx D 3 + (d + 1) * 32) h := by
  have hq3 := mq_le hO 3
  have h323 := mq32 hO 3
  have h324 := mq32 hO 4
  have hpos := Nat.two_pow_pos (mq P 4)
  obtain ⟨r, w, h, q1, q2⟩ := wh_up (step := wX11_laysBoxes__60 (nI (D 0)) (nI (D 1)) (nI (D 2)) (nI d) g) (fun i t => ∃ u, u < 2 ^ mq P 4 ∧ t = (nI u, nI i) ∧ ∀ z, u.testBit z = true ↔ z < mq P 4 ∧ ∀ y, y < i → d.testBit y = true → lsP P (upA D 3 (2 ^ y)) z) (fun r => ∃ h, r = .inl (nI (d + 1), h) ∧ lyB g h ∧ h.1 60 = g.1 60 ∧ mL P (kx D 3 + (d + 1) * 32) h) (mq P 3) (fun i t hi hI => by
    obtain ⟨u, hu, rfl, hz⟩ := hI
    dsimp only [wX11_laysBoxes__60]
    rw [show (3 : Int32) = nI 3 from rfl, m_manyOf hO hM (by omega : 3 < 5), Option.bind_some, if_neg (by rw [nN_le (by omega) (by omega)]; omega), m_has (by omega) (by omega), Option.bind_some, nI_s]
    cases hb : d.testBit i with
    | true =>
      obtain ⟨v, v1, v2, v3⟩ := h60 i hi
      rw [if_neg (show ¬ (if true = true then (1 : Int32) else 0) = 0 by decide), zchk_t (zin_nI (by omega) (by omega)), nI_cl (by omega), v1, nI_and]
      refine ⟨_, rfl, _, Nat.lt_of_le_of_lt Nat.and_le_left hu, rfl, fun z => ?_⟩
      rw [Nat.testBit_and, Bool.and_eq_true, hz z, v3 z]
      constructor
      · rintro ⟨⟨b1, b2⟩, -, b3⟩
        refine ⟨b1, fun y hy hb => ?_⟩
        by_cases q : y = i
        · rw [q]; exact b3
        · exact b2 y (by omega) hb
      · rintro ⟨b1, b2⟩
        exact ⟨⟨b1, fun y hy hb => b2 y (by omega) hb⟩, b1, b2 i (by omega) hb⟩
    | false =>
      rw [if_pos (show (if false = true then (1 : Int32) else 0) = 0 by decide), show (4 : Int32) = nI 4 from rfl, m_all hO hM (by omega : 4 < 5), Option.bind_some, nI_and]
      refine ⟨_, rfl, u &&& (2 ^ mq P 4 - 1), Nat.lt_of_le_of_lt Nat.and_le_left hu, rfl, fun z => ?_⟩
      rw [Nat.testBit_and, Bool.and_eq_true, hz z, m1_bit, decide_eq_true_eq]
      constructor
      · rintro ⟨⟨b1, b2⟩, -⟩
        refine ⟨b1, fun y hy hb2 => ?_⟩
        by_cases q : y = i
        · rw [q, hb] at hb2; cases hb2
        · exact b2 y (by omega) hb2
      · rintro ⟨b1, b2⟩
        exact ⟨⟨b1, fun y hy hb => b2 y (by omega) hb⟩, b1⟩) (fun t hI => by
    obtain ⟨u, hu, rfl, hz⟩ := hI
    have hz2 : ∀ z, u.testBit z = true ↔ z < mq P 4 ∧ lsP P (upA D 3 d) z := fun z => by
      rw [hz z, ← lsP_and (show d < 32 by omega)]
      constructor
      · rintro ⟨b1, b2⟩
        exact ⟨b1, fun y _ hb => b2 y (big_bit hd hb) hb⟩
      · rintro ⟨b1, b2⟩
        exact ⟨b1, fun y hy hb => b2 y (by omega) hb⟩
    dsimp only [wX11_laysBoxes__60]
    rw [show (3 : Int32) = nI 3 from rfl, m_manyOf hO hM (by omega : 3 < 5), Option.bind_some, if_pos (Int32.le_refl _), hm.1]
    by_cases c0 : u = 0
    · obtain ⟨h, w, a⟩ := m_lays131 (s := 0) hO hM hF hD hd0 hd h60 hu hz2 (Or.inr ⟨rfl, Or.inr c0⟩) hm
      rw [if_pos (by rw [c0]; rfl), w]
      exact ⟨_, rfl, h, rfl, a⟩
    · rw [if_neg (fun q => c0 ((nN_eq0 (by omega)).mp q))]
      have hmin : min (cnt (gK P) (kx D 3 + d * 32)) 30000 ≤ 30000 := Nat.min_le_right _ _
      by_cases c1 : 30000 ≤ cnt (gK P) (kx D 3 + d * 32)
      · obtain ⟨h, w, a⟩ := m_lays131 (s := 0) hO hM hF hD hd0 hd h60 hu hz2 (Or.inr ⟨rfl, Or.inl c1⟩) hm
        rw [if_pos (show (30000 : Int32) ≤ nI _ by rw [show (30000 : Int32) = nI 30000 from rfl, nN_le (by omega) (by omega), Nat.min_eq_right c1]; omega), w]
        exact ⟨_, rfl, h, rfl, a⟩
      · obtain ⟨h, w, a⟩ := m_lays131 (s := 1) hO hM hF hD hd0 hd h60 hu hz2 (Or.inl ⟨rfl, c0, by omega⟩) hm
        rw [if_neg (show ¬ (30000 : Int32) ≤ nI _ by rw [show (30000 : Int32) = nI 30000 from rfl, nN_le (by omega) (by omega), Nat.min_eq_left (by omega)]; omega), w]
        exact ⟨_, rfl, h, rfl, a⟩) (s := (nI (2 ^ mq P 4 - 1), (0 : Int32))) ⟨2 ^ mq P 4 - 1, by omega, rfl, fun z => by
    rw [m1_bit, decide_eq_true_eq]
    exact ⟨fun h => ⟨h, fun y hy => absurd hy (Nat.not_lt_zero y)⟩, fun h => h.1⟩⟩
  exact ⟨h, by rw [w, q1], q2⟩
theorem b60_ly {n : Nat} {h : zS} (e : h.1 60 = g.1 60) (p : b60 P D n g) : b60 P D n h := fun y hy => by rw [e]; exact p y hy
theorem m_laysBoxes_ (hO : pOK P) (hM : mP P g) (hF : mF P g) (hD : ∀ i, i < 3 → D i ≠ 0 ∧ D i < 2 ^ mq P i) (hm : mL P (kx D 3) g) : ∃ h, nX11_laysBoxes_ (nI (D 0)) (nI (D 1)) (nI (D 2)) g = some h ∧ lyB g h ∧ mL P (kx D 3 + 1024) h := by
  have hq3 := mq_le hO 3
  have h323 := mq32 hO 3
  have hq : ∀ i, i < 3 → D i < 32 := fun i hi => Nat.lt_of_lt_of_le (hD i hi).2 (mq32 hO i)
  unfold nX11_laysBoxes_
  refine wh_up (fun i (t : Int32 × zS) => t.1 = nI i ∧ lyB g t.2 ∧ b60 P D i t.2 ∧ mL P (kx D 3) t.2) _ (mq P 3) (fun i t hi hI => ?_) (fun t hI => ?_) ⟨rfl, lyB_rfl g, fun y hy => absurd hy (Nat.not_lt_zero y), hm⟩
  · obtain ⟨i1, i2, i3, i4⟩ := hI
    obtain ⟨t1, t2⟩ := t
    dsimp only at i1 i2 i3 i4
    have hM2 := mP_ly i2 hM
    dsimp only [wX11_laysBoxes__3]
    rw [i1, show (3 : Int32) = nI 3 from rfl, m_manyOf hO hM2 (by omega : 3 < 5), Option.bind_some, if_neg (by rw [nN_le (by omega) (by omega)]; omega), nI_shl (by omega)]
    have hlt : ∀ f, f < 4 → upA D 3 (2 ^ i) f < 32 := fun f hf => by
      unfold upA
      by_cases q : f = 3
      · rw [if_pos q]; exact (show 2 ^ i < 2 ^ 5 from Nat.pow_lt_pow_right (by omega) (by omega))
      · rw [if_neg q]; exact hq f (by omega)
    obtain ⟨u, w, u1, u2⟩ := m_lastOfD (D := upA D 3 (2 ^ i)) hO hM2 (mF_ly i2 hF) hlt
    have e : nX11_lastOf (nI (D 0)) (nI (D 1)) (nI (D 2)) (nI (2 ^ i)) t2 = some (nI u) := w
    rw [e, Option.bind_some, zchk_t (zin_nI (by omega) (by omega)), nI_s, nI_cl (by omega)]
    refine ⟨_, rfl, rfl, lyB_tr i2 (lyB_60 _ _ _), fun y hy => ?_, mL_60 i4⟩
    by_cases q : y = i
    · rw [q]
      exact ⟨u, zi_at _ _ _ _, u1, u2⟩
    · obtain ⟨v, v1, v2⟩ := i3 y (by omega)
      exact ⟨v, by rw [zi_else _ _ (fun e => q e.2)]; exact v1, v2⟩
  · obtain ⟨i1, i2, i3, i4⟩ := hI
    obtain ⟨t1, t2⟩ := t
    dsimp only at i1 i2 i3 i4
    have hM2 := mP_ly i2 hM
    have hF2 := mF_ly i2 hF
    dsimp only [wX11_laysBoxes__3]
    rw [i1, show (3 : Int32) = nI 3 from rfl, m_manyOf hO hM2 (by omega : 3 < 5), Option.bind_some, if_pos (Int32.le_refl _)]
    have hpos := Nat.two_pow_pos (mq P 3)
    obtain ⟨h, w, a1, a2⟩ := wh_sets (P := P) (step := wX11_laysBoxes__40 (nI (D 0)) (nI (D 1)) (nI (D 2))) (K := kx D 3) (W := 32) (M := 2 ^ mq P 3) hpos (fun s => lyB t2 s ∧ s.1 60 = t2.1 60) (fun s => s) (fun d s h1 h2 hFs hms => by
      obtain ⟨f1, f2⟩ := hFs
      have hM3 := mP_ly f1 hM2
      dsimp only [wX11_laysBoxes__40]
      rw [show (3 : Int32) = nI 3 from rfl, m_all hO hM3 (by omega : 3 < 5), Option.bind_some, if_neg (by rw [nN_lt (by omega) (by omega)]; omega), show (4 : Int32) = nI 4 from rfl, m_all hO hM3 (by omega : 4 < 5), Option.bind_some]
      obtain ⟨h, w, a1, a2, a3⟩ := m_lays60 hO hM3 (mF_ly f1 hF2) hD (by omega : d ≠ 0) h2 (b60_ly f2 i3) hms
      rw [w]
      exact ⟨h, rfl, ⟨lyB_tr f1 a1, a2.trans f2⟩, a3⟩) (fun s hFs => by
      have hM3 := mP_ly hFs.1 hM2
      dsimp only [wX11_laysBoxes__40]
      rw [show (3 : Int32) = nI 3 from rfl, m_all hO hM3 (by omega : 3 < 5), Option.bind_some, if_pos (by rw [nN_lt (by omega) (by omega)]; omega)]
      rfl) (s := t2) ⟨lyB_rfl t2, rfl⟩ (by
      have h0 := mL_set (g := t2) (D := D) (f := 3) (S := 0) hO (by omega) hq (by omega) (Or.inl rfl) (by rw [Nat.zero_mul, Nat.add_zero]; exact i4)
      rw [Nat.zero_add] at h0
      exact h0)
    rw [w]
    exact ⟨_, rfl, lyB_tr i2 a1.1, mL_end (f := 3) hO (by omega) hq a2⟩
end Mz
