
/-! ===== how many greatest boxes there may be: 31^4; 31^3 up to four fields ===== -/
section Bs0
variable {P : zPl}
/-- what can be told apart by fewer numbers -/
theorem cnt_map {φ : Nat → Nat} {m : Nat} : ∀ (n : Nat) (p q : Nat → Bool), (∀ Y, Y < n → p Y = true → φ Y < m ∧ q (φ Y) = true) → (∀ Y Z, Y < n → Z < n → p Y = true → p Z = true → φ Y = φ Z → Y = Z) → cnt p n ≤ cnt q m
  | 0, p, q, _, _ => Nat.zero_le _
  | n + 1, p, q, h1, h2 => by
    rw [cnt_s]
    by_cases c : p n = true
    · rw [if_pos c]
      obtain ⟨a1, a2⟩ := h1 n (by omega) c
      have e : cnt q m = cnt (fun i => if i = φ n then false else q i) m + 1 := cnt_upd (j := φ n) (by rw [if_pos rfl]) a2 (fun i hi => by rw [if_neg hi]) m a1
      rw [e]
      have := cnt_map (φ := φ) (m := m) n p (fun i => if i = φ n then false else q i) (fun Y hY hp => by
        obtain ⟨b1, b2⟩ := h1 Y (by omega) hp
        refine ⟨b1, ?_⟩
        rw [if_neg (fun e => by have := h2 Y n (by omega) (by omega) hp c e; omega)]
        exact b2) (fun Y Z hY hZ => h2 Y Z (by omega) (by omega))
      omega
    · rw [if_neg c]
      exact cnt_map n p q (fun Y hY => h1 Y (by omega)) (fun Y Z hY hZ => h2 Y Z (by omega) (by omega))
theorem cnt_under {φ : Nat → Nat} {m n : Nat} {p : Nat → Bool} (h1 : ∀ Y, Y < n → p Y = true → φ Y < m) (h2 : ∀ Y Z, Y < n → Z < n → p Y = true → p Z = true → φ Y = φ Z → Y = Z) : cnt p n ≤ m := Nat.le_trans (cnt_map (φ := φ) (m := m) n p (fun _ => true) (fun Y hY hp => ⟨h1 Y hY hp, rfl⟩) h2) (cnt_le _ _)
/-- a box's number is told by its sets -/
theorem bk_ext {Y Z : Nat} (hY : Y < 33554432) (hZ : Z < 33554432) (h : ∀ f, f < 5 → bk Y f = bk Z f) : Y = Z := by
  have h0 := h 0 (by omega)
  have h1 := h 1 (by omega)
  have h2 := h 2 (by omega)
  have h3 := h 3 (by omega)
  have h4 := h 4 (by omega)
  have e : ∀ X, bk X 0 = X / 1048576 % 32 ∧ bk X 1 = X / 32768 % 32 ∧ bk X 2 = X / 1024 % 32 ∧ bk X 3 = X / 32 % 32 ∧ bk X 4 = X / 1 % 32 := fun X => ⟨rfl, rfl, rfl, rfl, rfl⟩
  obtain ⟨a0, a1, a2, a3, a4⟩ := e Y
  obtain ⟨b0, b1, b2, b3, b4⟩ := e Z
  omega
theorem gK_1 {X f : Nat} (h : gK P X = true) (hf : f < 5) : 1 ≤ bk X f := by
  obtain ⟨a1, a2, a3⟩ := gK_t.mp h
  by_cases c : f < pn P
  · exact Nat.one_le_iff_ne_zero.mpr (a3.1 f c).1
  · rw [a2 f (by omega) hf]; exact Nat.le_refl 1
/-- all sets but the last field's tell a box -/
theorem gK_last (hO : pOK P) {Y Z : Nat} (hY : Y < 33554432) (hZ : Z < 33554432) (gY : gK P Y = true) (gZ : gK P Z = true) (h : ∀ f, f + 1 < pn P → bk Y f = bk Z f) : Y = Z := by
  obtain ⟨a1, a2, a3⟩ := gK_t.mp gY
  obtain ⟨b1, b2, b3⟩ := gK_t.mp gZ
  have h5 := hO.1
  refine bk_ext hY hZ (fun f hf => ?_)
  by_cases c : f + 1 < pn P
  · exact h f c
  · by_cases d : f < pn P
    · rw [gB_last (B := bk Z) hO (f := f) (by omega) (fun i hi => h i (by omega)) a3, gB_last (B := bk Z) hO (f := f) (by omega) (fun i hi => rfl) b3]
    · rw [a2 f (by omega) hf, b2 f (by omega) hf]
theorem bd_small (hO : pOK P) (h4 : pn P ≤ 4) {X : Nat} (hX : X ≤ 33554432) : cnt (gK P) X ≤ 29791 := by
  refine cnt_under (φ := fun Y => ((bk Y 0 - 1) * 31 + (bk Y 1 - 1)) * 31 + (bk Y 2 - 1)) (fun Y hY gY => ?_) (fun Y Z hY hZ gY gZ e => ?_)
  · have l0 := bk_lt Y 0
    have l1 := bk_lt Y 1
    have l2 := bk_lt Y 2
    have g0 := gK_1 gY (f := 0) (by omega)
    have g1 := gK_1 gY (f := 1) (by omega)
    have g2 := gK_1 gY (f := 2) (by omega)
    omega
  · refine gK_last hO (by omega) (by omega) gY gZ (fun f hf => ?_)
    have k0 := bk_lt Y 0
    have k1 := bk_lt Y 1
    have k2 := bk_lt Y 2
    have l0 := bk_lt Z 0
    have l1 := bk_lt Z 1
    have l2 := bk_lt Z 2
    have f0 := gK_1 gY (f := 0) (by omega)
    have f1 := gK_1 gY (f := 1) (by omega)
    have f2 := gK_1 gY (f := 2) (by omega)
    have g0 := gK_1 gZ (f := 0) (by omega)
    have g1 := gK_1 gZ (f := 1) (by omega)
    have g2 := gK_1 gZ (f := 2) (by omega)
    have hc : f = 0 ∨ f = 1 ∨ f = 2 := by omega
    rcases hc with rfl | rfl | rfl
    · omega
    · omega
    · omega
theorem gK_many (hO : pOK P) {X : Nat} (hX : X ≤ 33554432) : cnt (gK P) X ≤ 923521 := by
  refine cnt_under (φ := fun Y => (((bk Y 0 - 1) * 31 + (bk Y 1 - 1)) * 31 + (bk Y 2 - 1)) * 31 + (bk Y 3 - 1)) (fun Y hY gY => ?_) (fun Y Z hY hZ gY gZ e => ?_)
  · have l0 := bk_lt Y 0
    have l1 := bk_lt Y 1
    have l2 := bk_lt Y 2
    have l3 := bk_lt Y 3
    have g0 := gK_1 gY (f := 0) (by omega)
    have g1 := gK_1 gY (f := 1) (by omega)
    have g2 := gK_1 gY (f := 2) (by omega)
    have g3 := gK_1 gY (f := 3) (by omega)
    omega
  · have h5 := hO.1
    refine gK_last hO (by omega) (by omega) gY gZ (fun f hf => ?_)
    have k0 := bk_lt Y 0
    have k1 := bk_lt Y 1
    have k2 := bk_lt Y 2
    have k3 := bk_lt Y 3
    have l0 := bk_lt Z 0
    have l1 := bk_lt Z 1
    have l2 := bk_lt Z 2
    have l3 := bk_lt Z 3
    have f0 := gK_1 gY (f := 0) (by omega)
    have f1 := gK_1 gY (f := 1) (by omega)
    have f2 := gK_1 gY (f := 2) (by omega)
    have f3 := gK_1 gY (f := 3) (by omega)
    have g0 := gK_1 gZ (f := 0) (by omega)
    have g1 := gK_1 gZ (f := 1) (by omega)
    have g2 := gK_1 gZ (f := 2) (by omega)
    have g3 := gK_1 gZ (f := 3) (by omega)
    have hc : f = 0 ∨ f = 1 ∨ f = 2 ∨ f = 3 := by omega
    rcases hc with rfl | rfl | rfl | rfl
    · omega
    · omega
    · omega
    · omega
end Bs0
