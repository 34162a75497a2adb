
/-! ===== the reference's list of boxes ===== -/
section My
variable {P : zPl} {g : zS} {D : Nat → Nat}
theorem kx_part {B : Nat → Nat} {f S Y : Nat} (hf : f < 5) (hB : ∀ i, i < f → B i < 32) (hS : S < 32) (h1 : kx B f + S * 32 ^ (4 - f) ≤ Y) (h2 : Y < kx B f + (S + 1) * 32 ^ (4 - f)) : (∀ i, i < f → bk Y i = B i) ∧ bk Y f = S := by
  have hkC : kx (upA B f S) (f + 1) = kx B f + S * 32 ^ (4 - f) := by
    rw [kx_s, kx_congr (C := B) f (fun i hi => by unfold upA; rw [if_neg (by omega)])]
    unfold upA
    rw [if_pos rfl]
  have hr := (kx_range (B := upA B f S) (f := f + 1) (Y := Y) (by omega) (fun i hi => by
    unfold upA
    by_cases q : i = f
    · rw [if_pos q]; exact hS
    · rw [if_neg q]; exact hB i (by omega))).mp (by
    rw [hkC, show 5 - (f + 1) = 4 - f by omega]
    rw [Nat.add_mul, Nat.one_mul] at h2
    omega)
  refine ⟨fun i hi => ?_, ?_⟩
  · rw [hr.2 i (by omega)]
    unfold upA
    rw [if_neg (by omega)]
  · rw [hr.2 f (by omega)]
    unfold upA
    rw [if_pos rfl]
/-- the reference's list of boxes whose numbers are below X -/
def mL (P : zPl) (X : Nat) (g : zS) : Prop := g.1 42 29 = nI (min (cnt (gK P) X) 30000) ∧ ∀ Y, Y < X → gK P Y = true → cnt (gK P) Y < 30000 → ∀ f, f < 5 → g.1 59 (5 * cnt (gK P) Y + f) = nI (bk Y f)
theorem mL_skip {A C : Nat} (h : mL P A g) (hA : A ≤ C) (hn : ∀ Y, A ≤ Y → Y < C → gK P Y = false) : mL P C g := by
  obtain ⟨f1, f5⟩ := h
  have e := cnt_none hA hn
  refine ⟨by rw [e]; exact f1, fun Y hY hg => ?_⟩
  by_cases q : Y < A
  · exact f5 Y q hg
  · rw [hn Y (by omega) hY] at hg; cases hg
/-- what laying boxes leaves as it was -/
def lyB (g h : zS) : Prop := (∀ c, c ≠ 42 → c ≠ 59 → c ≠ 60 → h.1 c = g.1 c) ∧ (∀ k, k ≠ 29 → h.1 42 k = g.1 42 k) ∧ h.2 = g.2
theorem lyB_rfl (g : zS) : lyB g g := ⟨fun _ _ _ _ => rfl, fun _ _ => rfl, rfl⟩
theorem lyB_tr {g h k : zS} (a : lyB g h) (b : lyB h k) : lyB g k := ⟨fun c h1 h2 h3 => (b.1 c h1 h2 h3).trans (a.1 c h1 h2 h3), fun i hi => (b.2.1 i hi).trans (a.2.1 i hi), b.2.2.trans a.2.2⟩
theorem lyB_59 (g : zS) (k : Nat) (x : Int32) : lyB g (zi g 59 k x) := ⟨fun c _ h _ => zi_cell _ _ h, fun i _ => by rw [zi_cell _ _ (show 42 ≠ 59 by decide)], rfl⟩
theorem lyB_60 (g : zS) (k : Nat) (x : Int32) : lyB g (zi g 60 k x) := ⟨fun c _ _ h => zi_cell _ _ h, fun i _ => by rw [zi_cell _ _ (show 42 ≠ 60 by decide)], rfl⟩
theorem lyB_29 (g : zS) (x : Int32) : lyB g (zi g 42 29 x) := ⟨fun c h _ _ => zi_cell _ _ h, fun i hi => zi_else _ _ (fun e => hi e.2), rfl⟩
theorem mP_ly {h : zS} (a : lyB g h) (p : mP P g) : mP P h := by
  unfold mP at p ⊢
  rw [a.2.1 16 (by decide), a.2.1 17 (by decide), a.2.1 19 (by decide), a.1 51 (by decide) (by decide) (by decide), a.1 52 (by decide) (by decide) (by decide), a.1 53 (by decide) (by decide) (by decide), a.1 54 (by decide) (by decide) (by decide), a.1 58 (by decide) (by decide) (by decide)]
  exact p
theorem mF_ly {h : zS} (a : lyB g h) (p : mF P g) : mF P h := by
  unfold mF at p ⊢
  rw [a.1 56 (by decide) (by decide) (by decide), a.1 57 (by decide) (by decide) (by decide)]
  exact p
theorem mL_60 {X k : Nat} {x : Int32} (h : mL P X g) : mL P X (zi g 60 k x) := by
  unfold mL at h ⊢
  rw [zi_cell g x (show 42 ≠ 60 by decide), zi_cell g x (show 59 ≠ 60 by decide)]
  exact h
theorem zi59_42 (g : zS) (k : Nat) (x : Int32) : (zi g 59 k x).1 42 29 = g.1 42 29 := by rw [zi_cell _ _ (show 42 ≠ 59 by decide)]
/-- the numbers of a part, the last field's set alone open -/
theorem part_box (hO : pOK P) (hq : ∀ i, i < 4 → D i < 32) {L : Nat} (hz : ∀ z, L.testBit z = true ↔ z < mq P 4 ∧ lsP P D z) {Y : Nat} (h1 : kx D 4 ≤ Y) (h2 : Y < kx D 4 + 32) (hg : gK P Y = true) : (∀ i, i < 5 → bk Y i = upA D 4 L i) ∧ gM P (upA D 4 L) := by
  have hr := (kx_range (B := D) (f := 4) (Y := Y) (by omega) hq).mp ⟨h1, h2⟩
  have hgm := (gK_gM hO Y).mp hg
  have e4 : bk Y 4 = L := by
    apply Nat.eq_of_testBit_eq
    intro z
    rw [Bool.eq_iff_iff, hz z]
    constructor
    · intro hb
      refine ⟨big_bit (hgm.1 4 (by omega)).2 hb, fun a ha haz => hgm.2.1 a (fun f _ hf => ?_)⟩
      by_cases q : f = 4
      · rw [q, haz]; exact hb
      · rw [hr.2 f (by omega)]; exact ha f (by omega)
    · rintro ⟨b1, b2⟩
      cases hb : (bk Y 4).testBit z with
      | true => rfl
      | false =>
        obtain ⟨a, a1, a2, a3⟩ := hgm.2.2 4 (by omega) z b1 hb
        rw [b2 a (fun f hf => by rw [← hr.2 f hf]; exact a2 f (by omega) (by omega)) a1] at a3
        cases a3
  have e5 : ∀ i, i < 5 → bk Y i = upA D 4 L i := fun i hi => by
    unfold upA
    by_cases q : i = 4
    · rw [if_pos q, q, e4]
    · rw [if_neg q, hr.2 i (by omega)]
  refine ⟨e5, ?_⟩
  have go : ∀ {B C : Nat → Nat}, (∀ i, i < 5 → B i = C i) → gM P B → gM P C := fun {B C} h k => ⟨fun f hf => by rw [← h f hf]; exact k.1 f hf, fun a ha => k.2.1 a (fun f h0 hf => by rw [h f hf]; exact ha f h0 hf), fun f hf v hv hb => by
    obtain ⟨a, a1, a2, a3⟩ := k.2.2 f hf v hv (by rw [h f hf]; exact hb)
    exact ⟨a, a1, fun i hi hif => by rw [← h i hi]; exact a2 i hi hif, a3⟩⟩
  exact go e5 hgm
end My
