
/-! ===== the reference's list of boxes ===== -/
section My
variable {P : zPl} {g : zS} {D : Nat → Nat}
theorem kx_part {B : Nat → Nat} {f S Y : Nat} (hf : f < 5) (hB : ∀ i, i < f → B i < 32) (hS : S < 32) (h1 : kx B f + S * 32 ^ (4 - f) ≤ Y) (h2 : Y < kx B f + (S + 1) * 32 ^ (4 - f)) : (∀ i, i < f → bk Y i = B i) ∧ bk Y f = S := by
  have hkC : kx (upA B f S) (f + 1) = kx B f + S * 32 ^ (4 - f) := by
    rw [kx_s, kx_congr (C := B) f (fun i hi => by unfold upA; rw [if_neg (by omega)])]
    unfold upA
    rw [if_pos rfl]
  have hr := (kx_range (B := upA B f S) (f := f + 1) (Y := Y) (by omega) (fun i hi => by
    unfold upA
    by_cases q : i = f
    · rw [if_pos q]; exact hS
    · rw [if_neg q]; exact hB i (by omega))).mp (by
    rw [hkC, show 5 - (f + 1) = 4 - f by omega]
    rw [Nat.add_mul, Nat.one_mul] at h2
    omega)
  refine ⟨fun i hi => ?_, ?_⟩
  · rw [hr.2 i (by omega)]
    unfold upA
    rw [if_neg (by omega)]
  · rw [hr.2 f (by omega)]
    unfold upA
    rw [if_pos rfl]
/-- the reference's list of boxes whose numbers are below X -/
def mL (P : zPl) (X : Nat) (g : zS) : Prop := g.1 42 29 = nI (min (cnt (gK P) X) 30000) ∧ ∀ Y, Y < X → gK P Y = true → cnt (gK P) Y < 30000 → ∀ f, f < 5 → g.1 59 (5 * cnt (gK P) Y + f) = nI (bk Y f)
theorem mL_skip {A C : Nat} (h : mL P A g) (hA : A ≤ C) (hn : ∀ Y, A ≤ Y → Y < C → gK P Y = false) : mL P C g := by
  obtain ⟨f1, f5⟩ := h
  have e := cnt_none hA hn
  refine ⟨by rw [e]; exact f1, fun Y hY hg => ?_⟩
  by_cases q : Y < A
  · exact f5 Y q hg
  · rw [hn Y (by omega) hY] at hg; cases hg
/-- what laying boxes leaves as it was -/
def lyB (g h : zS) : Prop := (∀ c, c ≠ 42 → c ≠ 59 → c ≠ 60 → h.1 c = g.1 c) ∧ (∀ k, k ≠ 29 → h.1 42 k = g.1 42 k) ∧ h.2 = g.2
theorem lyB_rfl (g : zS) : lyB g g := ⟨fun _ _ _ _ => rfl, fun _ _ => rfl, rfl⟩
theorem lyB_tr {g h k : zS} (a : lyB g h) (b : lyB h k) : lyB g k := ⟨fun c h1 h2 h3 => (b.1 c h1 h2 h3).trans (a.1 c h1 h2 h3), fun i hi => (b.2.1 i hi).trans (a.2.1 i hi), b.2.2.trans a.2.2⟩
theorem lyB_59 (g : zS) (k : Nat) (x : Int32) : lyB g (zi g 59 k x) := ⟨fun c _ h _ => zi_cell _ _ h, fun i _ => by rw [zi_cell _ _ (show 42 ≠ 59 by decide)], rfl⟩
theorem lyB_60 (g : zS) (k : Nat) (x : Int32) : lyB g (zi g 60 k x) := ⟨fun c _ _ h => zi_cell _ _ h, fun i _ => by rw [zi_cell _ _ (show 42 ≠ 60 by decide)], rfl⟩
theorem lyB_29 (g : zS) (x : Int32) : lyB g (zi g 42 29 x) := ⟨fun c h _ _ => zi_cell _ _ h, fun i hi => zi_else _ _ (fun e => hi e.2), rfl⟩
theorem mP_ly {h : zS} (a : lyB g h) (p : mP P g) : mP P h := by
  unfold mP at p ⊢
  rw [a.2.1 16 (by decide), a.2.1 17 (by decide), a.2.1 19 (by decide), a.1 51 (by decide) (by decide) (by decide), a.1 52 (by decide) (by decide) (by decide), a.1 53 (by decide) (by decide) (by decide), a.1 54 (by decide) (by decide) (by decide), a.1 58 (by decide) (by decide) (by decide)]
  exact p
theorem mF_ly {h : zS} (a : lyB g h) (p : mF P g) : mF P h := by
  unfold mF at p ⊢
  rw [a.1 56 (by decide) (by decide) (by decide), a.1 57 (by decide) (by decide) (by decide)]
  exact p
theorem mL_60 {X k : Nat} {x : Int32} (h : mL P X g) : mL P X (zi g 60 k x) := by
  unfold mL at h ⊢
  rw [zi_cell g x (show 42 ≠ 60 by decide), zi_cell g x (show 59 ≠ 60 by decide)]
  exact h
theorem zi59_42 (g : zS) (k : Nat) (x : Int32) : (zi g 59 k x).1 42 29 = g.1 42 29 := by rw [zi_cell _ _ (show 42 ≠ 59 by decide)]
/-- the numbers of a part, the last field's set alone open -/
theorem part_box (hO : pOK P) (hq : ∀ i, i < 4 → D i < 32) {L : Nat} (hz : ∀ z, L.testBit z = true ↔ z < mq P 4 ∧ lsP P D z) {Y : Nat} (h1 : kx D 4 ≤ Y) (h2 : Y < kx D 4 + 32) (hg : gK P Y = true) : (∀ i, i < 5 → bk Y i = upA D 4 L i) ∧ gM P (upA D 4 L) := by
  have hr := (kx_range (B := D) (f := 4) (Y := Y) (by omega) hq).mp ⟨h1, h2⟩
  have hgm := (gK_gM hO Y).mp hg
  have e4 : bk Y 4 = L := by
    apply Nat.eq_of_testBit_eq
    intro z
    rw [Bool.eq_iff_iff, hz z]
    constructor
    · intro hb
      refine ⟨big_bit (hgm.1 4 (by omega)).2 hb, fun a ha haz => hgm.2.1 a (fun f _ hf => ?_)⟩
      by_cases q : f = 4
      · rw [q, haz]; exact hb
      · rw [hr.2 f (by omega)]; exact ha f (by omega)
    · rintro ⟨b1, b2⟩
      cases hb : (bk Y 4).testBit z with
      | true => rfl
      | false =>
        obtain ⟨a, a1, a2, a3⟩ := hgm.2.2 4 (by omega) z b1 hb
        rw [b2 a (fun f hf => by rw [← hr.2 f hf]; exact a2 f (by omega) (by omega)) a1] at a3
        cases a3
  have e5 : ∀ i, i < 5 → bk Y i = upA D 4 L i := fun i hi => by
    unfold upA
    by_cases q : i = 4
    · rw [if_pos q, q, e4]
    · rw [if_neg q, hr.2 i (by omega)]
  refine ⟨e5, ?_⟩
  have go : ∀ {B C : Nat → Nat}, (∀ i, i < 5 → B i = C i) → gM P B → gM P C := fun {B C} h k => ⟨fun f hf => by rw [← h f hf]; exact k.1 f hf, fun a ha => k.2.1 a (fun f h0 hf => by rw [h f hf]; exact ha f h0 hf), fun f hf v hv hb => by
    obtain ⟨a, a1, a2, a3⟩ := k.2.2 f hf v hv (by rw [h f hf]; exact hb)
    exact ⟨a, a1, fun i hi hif => by rw [← h i hi]; exact a2 i hi hif, a3⟩⟩
  exact go e5 hgm
/-- a box comes behind the list -/
theorem m_lays184 (hO : pOK P) (hM : mP P g) (hF : mF P g) (hD : ∀ i, i < 4 → D i ≠ 0 ∧ D i < 2 ^ mq P i) {L : Nat} (hL : L < 2 ^ mq P 4) (hz : ∀ z, L.testBit z = true ↔ z < mq P 4 ∧ lsP P D z) {s : Int32} (hs : (s = 1 ∧ L ≠ 0 ∧ cnt (gK P) (kx D 4) < 30000) ∨ (s = 0 ∧ (30000 ≤ cnt (gK P) (kx D 4) ∨ ∀ Y, kx D 4 ≤ Y → Y < kx D 4 + 32 → gK P Y = false))) (hm : mL P (kx D 4) g) : ∃ h, jX11_laysBoxes__184 (nI (D 0)) (nI (D 1)) (nI (D 2)) (nI (D 3)) (nI L) s g = some (.inl (nI (D 3 + 1), h)) ∧ lyB g h ∧ h.1 60 = g.1 60 ∧ mL P (kx D 4 + 32) h := by
  have hq : ∀ i, i < 4 → D i < 32 := fun i hi => Nat.lt_of_lt_of_le (hD i hi).2 (mq32 hO i)
  have hL32 : L < 32 := Nat.lt_of_lt_of_le hL (mq32 hO 4)
  obtain ⟨m1, m2⟩ := hm
  have hc := cnt_le (gK P) (kx D 4)
  have hY := fun Y h1 h2 hg => part_box (Y := Y) hO hq hz h1 h2 hg
  have hskip : ∀ {h : zS}, h.1 42 29 = g.1 42 29 → h.1 59 = g.1 59 → (30000 ≤ cnt (gK P) (kx D 4) ∨ ∀ Y, kx D 4 ≤ Y → Y < kx D 4 + 32 → gK P Y = false) → mL P (kx D 4 + 32) h := fun {h} e1 e2 hno => by
    rcases hno with q | q
    · have hmono := cnt_mono (gK P) (i := kx D 4) (kx D 4 + 32) (by omega)
      refine ⟨by rw [e1, m1, Nat.min_eq_right q, Nat.min_eq_right (by omega)], fun Y hY hg hlt f hf => ?_⟩
      rw [e2]
      by_cases q2 : Y < kx D 4
      · exact m2 Y q2 hg hlt f hf
      · have := cnt_mono (gK P) (i := kx D 4) Y (by omega)
        omega
    · refine mL_skip ⟨by rw [e1]; exact m1, fun Y hY hg hlt f hf => by rw [e2]; exact m2 Y hY hg hlt f hf⟩ (by omega) q
  unfold jX11_laysBoxes__184
  rcases hs with ⟨rfl, hL0, hlt⟩ | ⟨rfl, hno⟩
  · rw [if_neg (show ¬ (1 : Int32) = 0 by decide), m_isGreatest hO hM hF hq hL, Option.bind_some]
    by_cases hgr : ∀ f, f < 4 → ∀ v, v < mq P f → (D f).testBit v = false → ¬ fvP P D L f v
    · have hgm := (gM_iff hO hL hz hD).mpr ⟨hL0, hgr⟩
      have e29 : g.1 42 29 = nI (cnt (gK P) (kx D 4)) := by rw [m1, Nat.min_eq_left (by omega)]
      have n5 : (5 : Int32) * nI (cnt (gK P) (kx D 4)) = nI (5 * cnt (gK P) (kx D 4)) := by rw [show (5 : Int32) = nI 5 from rfl, nI_mul]
      have a1 : ∀ k : Nat, nI (5 * cnt (gK P) (kx D 4)) + nI k = nI (5 * cnt (gK P) (kx D 4) + k) := fun k => nN_add _ _
      rw [dB_t.mpr hgr, if_pos rfl, if_neg (show ¬ (1 : Int32) = 0 by decide)]
      simp only [zi59_42, e29, n5]
      rw [show (1 : Int32) = nI 1 from rfl, show (2 : Int32) = nI 2 from rfl, show (3 : Int32) = nI 3 from rfl, show (4 : Int32) = nI 4 from rfl, a1, a1, a1, a1, nI_cl (by omega), nI_cl (by omega), nI_cl (by omega), nI_cl (by omega), nI_cl (by omega), zchk_t (zin_nI (by omega) (by omega)), zchk_t (zin_nI (by omega) (by omega)), zchk_t (zin_nI (by omega) (by omega)), zchk_t (zin_nI (by omega) (by omega)), zchk_t (zin_nI (by omega) (by omega))]
      rw [nN_add (D 3) 1, nN_add (cnt (gK P) (kx D 4)) 1]
      generalize hc0 : cnt (gK P) (kx D 4) = c at *
      have hZ : gK P (kx D 4 + L) = true := (gK_gM hO _).mpr (by
        have hr := (kx_range (B := D) (f := 4) (Y := kx D 4 + L) (by omega) hq).mp ⟨Nat.le_add_right _ _, by show _ < kx D 4 + 32; omega⟩
        have e4 : bk (kx D 4 + L) 4 = L := by
          have h6 := kx_part (B := D) (f := 4) (S := L) (Y := kx D 4 + L) (by omega) hq hL32 (by show kx D 4 + L * 1 ≤ _; omega) (by show _ < kx D 4 + (L + 1) * 1; omega)
          exact h6.2
        have e5 : ∀ i, i < 5 → upA D 4 L i = bk (kx D 4 + L) i := fun i hi => by
          unfold upA
          by_cases q : i = 4
          · rw [if_pos q, q, e4]
          · rw [if_neg q, hr.2 i (by omega)]
        exact ⟨fun f hf => by rw [← e5 f hf]; exact hgm.1 f hf, fun a ha => hgm.2.1 a (fun f h0 hf => by rw [e5 f hf]; exact ha f h0 hf), fun f hf v hv hb => by
          obtain ⟨a, a1, a2, a3⟩ := hgm.2.2 f hf v hv (by rw [e5 f hf]; exact hb)
          exact ⟨a, a1, fun i hi hif => by rw [← e5 i hi]; exact a2 i hi hif, a3⟩⟩)
      have hZu : ∀ Y, kx D 4 ≤ Y → Y < kx D 4 + 32 → gK P Y = true → Y = kx D 4 + L := fun Y h1 h2 hg => by
        have h3 := (hY Y h1 h2 hg).1 4 (by omega)
        have h4 := kx_part (B := D) (f := 4) (S := Y - kx D 4) (Y := Y) (by omega) hq (by omega) (by show kx D 4 + (Y - kx D 4) * 1 ≤ _; omega) (by show _ < kx D 4 + (Y - kx D 4 + 1) * 1; omega)
        rw [h4.2] at h3
        have h5 : upA D 4 L 4 = L := if_pos rfl
        omega
      have hone := cnt_one (p := gK P) (A := kx D 4) (C := kx D 4 + 32) (Z := kx D 4 + L) (by omega) (by omega) hZ (fun Y h1 h2 hne => by
        cases hg : gK P Y with
        | false => rfl
        | true => exact (hne (hZu Y h1 h2 hg)).elim)
      rw [hc0] at hone
      refine ⟨_, rfl, lyB_tr (lyB_59 _ _ _) (lyB_tr (lyB_59 _ _ _) (lyB_tr (lyB_59 _ _ _) (lyB_tr (lyB_59 _ _ _) (lyB_tr (lyB_59 _ _ _) (lyB_29 _ _))))), by rw [zi_cell _ _ (show 60 ≠ 42 by decide), zi_cell _ _ (show 60 ≠ 59 by decide), zi_cell _ _ (show 60 ≠ 59 by decide), zi_cell _ _ (show 60 ≠ 59 by decide), zi_cell _ _ (show 60 ≠ 59 by decide), zi_cell _ _ (show 60 ≠ 59 by decide)], ?_, fun Y hY2 hg hlt2 f hf => ?_⟩
      · rw [hone.2, Nat.min_eq_left (by omega)]
        exact zi_at _ _ _ _
      · rw [zi_cell _ _ (show 59 ≠ 42 by decide)]
        by_cases q : Y < kx D 4
        · have h1 := cnt_mono (gK P) (i := Y + 1) (kx D 4) q
          rw [cnt_s, hg, if_pos rfl, hc0] at h1
          rw [zi_else _ _ (fun e => by have := e.2; omega), zi_else _ _ (fun e => by have := e.2; omega), zi_else _ _ (fun e => by have := e.2; omega), zi_else _ _ (fun e => by have := e.2; omega), zi_else _ _ (fun e => by have := e.2; omega)]
          exact m2 Y q hg hlt2 f hf
        · have hYZ := hZu Y (by omega) hY2 hg
          have hbk := (hY Y (by omega) hY2 hg).1
          rw [show cnt (gK P) Y = c by rw [hYZ]; exact hone.1]
          have hcf : f = 0 ∨ f = 1 ∨ f = 2 ∨ f = 3 ∨ f = 4 := by omega
          rcases hcf with rfl | rfl | rfl | rfl | rfl
          · rw [zi_else _ _ (fun e => by have := e.2; omega), zi_else _ _ (fun e => by have := e.2; omega), zi_else _ _ (fun e => by have := e.2; omega), zi_else _ _ (fun e => by have := e.2; omega), Nat.add_zero, zi_at, hbk 0 (by omega)]
            rfl
          · rw [zi_else _ _ (fun e => by have := e.2; omega), zi_else _ _ (fun e => by have := e.2; omega), zi_else _ _ (fun e => by have := e.2; omega), zi_at, hbk 1 (by omega)]
            rfl
          · rw [zi_else _ _ (fun e => by have := e.2; omega), zi_else _ _ (fun e => by have := e.2; omega), zi_at, hbk 2 (by omega)]
            rfl
          · rw [zi_else _ _ (fun e => by have := e.2; omega), zi_at, hbk 3 (by omega)]
            rfl
          · rw [zi_at, hbk 4 (by omega)]
            rfl
    · rw [dB_f.mpr hgr, if_neg (show ¬ false = true by decide), if_pos rfl, nI_s]
      refine ⟨g, rfl, lyB_rfl g, rfl, hskip rfl rfl (Or.inr (fun Y h1 h2 => ?_))⟩
      cases hg : gK P Y with
      | false => rfl
      | true =>
        exact (hgr ((gM_iff hO hL hz hD).mp (hY Y h1 h2 hg).2).2).elim
  · rw [if_pos rfl, nI_s]
    exact ⟨g, rfl, lyB_rfl g, rfl, hskip rfl rfl hno⟩
end My
