
/-! ===== the class's search for boxes ===== -/
section Se
variable {P : zPl} {g : zS} {B : Nat → Nat}
theorem usB_bit (P : zPl) (B : Nat → Nat) (f v : Nat) : (usB P B f).testBit v = true ↔ v < pq P f ∧ ¬ owP P B f v 0 := by
  unfold usB
  rw [bS_bit, Bool.and_eq_true, decide_eq_true_eq, dB_t]
theorem usB_lt (P : zPl) (B : Nat → Nat) (f : Nat) : usB P B f < 2 ^ pq P f := bS_lt _ _
theorem big_bit {x n v : Nat} (hx : x < 2 ^ n) (h : x.testBit v = true) : v < n := by
  by_cases q : v < n
  · exact q
  · rw [Nat.testBit_lt_two_pow (Nat.lt_of_lt_of_le hx (Nat.pow_le_pow_right (by omega) (by omega)))] at h
    cases h
/-- a box's sets are of values that can be used -/
theorem gB_use (hO : pOK P) {C : Nat → Nat} {f : Nat} (hf : f < pn P) (hC : ∀ i, i < f → C i = B i) (h : gB P C) {v : Nat} (hv : (C f).testBit v = true) : (usB P B f).testBit v = true := by
  rw [usB_bit]
  refine ⟨big_bit (h.1 f hf).2 hv, fun q => ?_⟩
  exact not_usable hO hf hv ((owP_congr hC).mpr q) (fun i hi => (h.1 i hi).1) h.2.1
theorem gB_last (hO : pOK P) {C : Nat → Nat} {f : Nat} (hf : f + 1 = pn P) (hC : ∀ i, i < f → C i = B i) (h : gB P C) : C f = usB P B f := by
  apply Nat.eq_of_testBit_eq
  intro v
  rw [Bool.eq_iff_iff]
  refine ⟨gB_use hO (by omega) hC h, fun hu => ?_⟩
  rw [usB_bit] at hu
  cases hb : (C f).testBit v with
  | true => rfl
  | false =>
    exfalso
    obtain ⟨a, a1, a2, a3⟩ := h.2.2 f (by omega) v hu.1 hb
    refine hu.2 ((owP_congr hC).mp ⟨a, fun i _ hi => a2 i (by omega) (by omega), fun e he hT hv => ?_⟩)
    exact ((fs_tA hO (by omega) a).mp a3 e he (fun i _ hin => by
      by_cases q : i = f
      · rw [q, a1]; exact hv
      · exact hT i (Nat.zero_le i) (by omega))).elim
theorem gB_cld (hO : pOK P) {C : Nat → Nat} {f : Nat} (hf : f < pn P) (h : gB P C) : cld P C f := by
  intro v hv hb
  refine Classical.byContradiction (fun q => not_closed hO hf hv hb h (fun x hx hw => Classical.byContradiction (fun q2 => q ⟨x, hx, hw, q2⟩)))
theorem cld_congr {C : Nat → Nat} {f : Nat} (h : ∀ i, i < f + 1 → B i = C i) : cld P B f ↔ cld P C f := by
  unfold cld
  rw [h f (Nat.lt_succ_self f)]
  constructor
  · intro k v hv hb
    obtain ⟨x, hx, h1, h2⟩ := k v hv hb
    exact ⟨x, hx, (owP_congr (fun i hi => h i (by omega))).mp h1, fun q => h2 ((opP_congr h).mpr q)⟩
  · intro k v hv hb
    obtain ⟨x, hx, h1, h2⟩ := k v hv hb
    exact ⟨x, hx, (owP_congr (fun i hi => h i (by omega))).mpr h1, fun q => h2 ((opP_congr h).mp q)⟩
theorem gB_congr {C : Nat → Nat} (h : ∀ i, i < pn P → B i = C i) : gB P B ↔ gB P C := by
  have go : ∀ {B C : Nat → Nat}, (∀ i, i < pn P → B i = C i) → gB P B → gB P C := fun {B C} h k => ⟨fun f hf => by rw [← h f hf]; exact k.1 f hf, fun a ha => k.2.1 a (fun f h0 hf => by rw [h f hf]; exact ha f h0 hf), fun f hf v hv hb => by
    obtain ⟨a, a1, a2, a3⟩ := k.2.2 f hf v hv (by rw [h f hf]; exact hb)
    exact ⟨a, a1, fun i hi hif => by rw [← h i hi]; exact a2 i hi hif, a3⟩⟩
  exact ⟨go h, go (fun i hi => (h i hi).symm)⟩
theorem lF_skip {A C : Nat} (h : lF P A g) (hA : A ≤ C) (hn : ∀ Y, A ≤ Y → Y < C → gK P Y = false) : lF P C g := by
  obtain ⟨f1, f2, f3, f4, f5⟩ := h
  have e := cnt_none hA hn
  refine ⟨by rw [e]; exact f1, by rw [e]; exact f2, f3, f4, fun Y hY hg => ?_⟩
  by_cases q : Y < A
  · exact f5 Y q hg
  · rw [hn Y (by omega) hY] at hg; cases hg
theorem lF_cells {X : Nat} {h : zS} (e1 : h.1 26 3 = g.1 26 3) (e2 : h.1 27 = g.1 27) (e3 : h.2.2.2 = g.2.2.2) (k : lF P X g) : lF P X h := by
  unfold lF at k ⊢
  rw [e1, e2, e3]
  exact k
theorem gK_t {X : Nat} : gK P X = true ↔ pn P ≠ 0 ∧ (∀ f, pn P ≤ f → f < 5 → bk X f = 1) ∧ gB P (bk X) := dB_t
theorem sub_not {a b : Nat} (ha : a < 32) : a &&& (b ^^^ 4294967295) = 0 ↔ ∀ v, a.testBit v = true → b.testBit v = true := by
  have h4 : ∀ f, f < 32 → (4294967295 : Nat).testBit f = true := by decide
  rw [b_zero]
  constructor
  · intro h v hv
    have hv5 : v < 5 := big_bit (n := 5) ha hv
    have h1 := h v
    rw [Nat.testBit_and, hv, Bool.true_and, Nat.testBit_xor, h4 v (by omega)] at h1
    cases q : b.testBit v with
    | true => rfl
    | false => rw [q] at h1; exact (h1 rfl).elim
  · intro h v hv
    rw [Nat.testBit_and, Bool.and_eq_true, Nat.testBit_xor] at hv
    have hv5 : v < 5 := big_bit (n := 5) ha hv.1
    rw [h v hv.1, h4 v (by omega)] at hv
    cases hv.2
/-- what holds ahead of a search from a field on -/
def sPr (P : zPl) (B : Nat → Nat) (f : Nat) (g : zS) : Prop := cP P g ∧ cE P g ∧ (∀ i, i < f → g.1 28 i = nI (B i) ∧ B i ≠ 0 ∧ B i < 2 ^ pq P i) ∧ cO P B f g ∧ (∀ i, i < f → cW P B i g) ∧ lF P (kx B f) g
/-- what a search from a field on leaves as it was -/
def sKp (f : Nat) (g h : zS) : Prop := fz kBx g h ∧ (∀ i, i < f → h.1 28 i = g.1 28 i) ∧ (∀ k, k ≤ f → h.2.1 29 k = g.2.1 29 k) ∧ (∀ k, k < f * 5 → h.2.1 30 k = g.2.1 30 k) ∧ h.1 26 4 = g.1 26 4
theorem sKp_tr {f : Nat} {g h k : zS} (a : sKp f g h) (b : sKp f h k) : sKp f g k := ⟨fz_tr a.1 b.1, fun i hi => (b.2.1 i hi).trans (a.2.1 i hi), fun i hi => (b.2.2.1 i hi).trans (a.2.2.1 i hi), fun i hi => (b.2.2.2.1 i hi).trans (a.2.2.2.1 i hi), b.2.2.2.2.trans a.2.2.2.2⟩
theorem sKp_le {f f' : Nat} (hf : f ≤ f') {g h : zS} (a : sKp f' g h) : sKp f g h := ⟨a.1, fun i hi => a.2.1 i (by omega), fun i hi => a.2.2.1 i (by omega), fun i hi => a.2.2.2.1 i (by omega), a.2.2.2.2⟩
theorem cW_kp {f i : Nat} (hq : pq P i ≤ 5) {h : zS} (a : sKp f g h) (hi : i < f) (p : cW P B i g) : cW P B i h := fun v hv x hx => by
  rw [a.2.2.2.1 (i * 5 + v) (by omega)]
  exact p v hv x hx
theorem k30_Bx {h : zS} (a : fr k30 g h) : fz kBx g h := fz_fr (fr_le (fun c hc => by
  cases q : k30 c with
  | false => rfl
  | true => rw [beq_iff_eq.mp q] at hc; cases hc) a)
theorem k267_Bx {h : zS} (a : fz k267 g h) : fz kBx g h := fz_le (fun c hc => by
  cases q : k267 c with
  | false => rfl
  | true =>
    unfold k267 at q
    rw [Bool.or_eq_true, beq_iff_eq, beq_iff_eq] at q
    rcases q with rfl | rfl <;> cases hc) a
/-- the last field of a box -/
theorem e_searchLast (hO : pOK P) {f n : Nat} (hf : f + 1 = pn P) (hb : ∀ X, X ≤ 33554432 → cnt (gK P) X ≤ 1048576) (hS : sPr P B f g) : ∃ h, rSearch (n + 1) (nI f) g = some h ∧ sKp f g h ∧ lF P (kx B f + 32 ^ (5 - f)) h := by
  have h5 := hO.1
  obtain ⟨s1, s2, s3, s4, s5, s6⟩ := hS
  show ∃ h, nX0_search (nX0_searchBehind (rSearch n)) (nI f) g = some h ∧ _
  unfold nX0_search
  have hq5 : ∀ i, i < pn P → pq P i ≤ 5 := fun i hi => (hO.2.1 i hi).2.1
  obtain ⟨h, w, m1, m2, m3⟩ := e_meetValues hO s1 s2 (by omega : f < pn P) s4
  have hP2 := cP_fr (K := k30) ⟨rfl, rfl, rfl, rfl, rfl, rfl, rfl⟩ m1 s1
  have hE2 := cE_fr (K := k30) rfl m1 s2
  rw [s1.1, if_pos (by rw [nN_lt (by omega) (by omega)]; omega), w, Option.bind_some, zchk_t (decide_eq_true m1.2.2)]
  dsimp only
  rw [hP2.1, show nI (pn P) - (1 : Int32) = nI f by rw [show (1 : Int32) = nI 1 from rfl, nI_sub (by omega)]; congr 1; omega, if_pos rfl, zchk_t (zin_nI (by omega) (by omega)), nI_cl (by omega)]
  have hul := usB_lt P B f
  have hu32 : usB P B f < 32 := Nat.lt_of_lt_of_le hul (Nat.pow_le_pow_right (n := 2) (by omega) (hq5 f (by omega)))
  have hz : fr (fun c => c == 28) h (zi h 28 f (nI (usB P B f))) := fr_zi rfl _ _ _
  have hz28 : ∀ i, i < pn P → (zi h 28 f (nI (usB P B f))).1 28 i = nI (upA B f (usB P B f) i) ∧ upA B f (usB P B f) i < 2 ^ pq P i := fun i hi => by
    unfold upA
    by_cases q : i = f
    · rw [if_pos q, q, zi_at]; exact ⟨rfl, hul⟩
    · rw [if_neg q, zi_else _ _ (fun e => q e.2), (m1.1 28 rfl).1]
      exact ⟨(s3 i (by omega)).1, (s3 i (by omega)).2.2⟩
  have hBu : ∀ i, i < f → B i = upA B f (usB P B f) i := fun i hi => by unfold upA; rw [if_neg (by omega)]
  have hzW : ∀ i, i < pn P → cW P (upA B f (usB P B f)) i (zi h 28 f (nI (usB P B f))) := fun i hi v hv x hx => by
    have hqi := hq5 i hi
    rw [← owP_congr (B := B) (fun j hj => hBu j (by omega))]
    show fb (h.2.1 30 (i * 5 + v)) x = true ↔ _
    by_cases q : i = f
    · rw [q]; rw [q] at hv; exact m2 v hv x hx
    · rw [m3 (i * 5 + v) (by omega)]
      exact s5 i (by omega) v hv x hx
  have hzF : lF P (kx B f) (zi h 28 f (nI (usB P B f))) := lF_cells (by rw [zi_cell _ _ (by decide), (m1.1 26 rfl).1]) (by rw [zi_cell _ _ (by decide), (m1.1 27 rfl).1]) m1.2.2 s6
  have hz264 : (zi h 28 f (nI (usB P B f))).1 26 4 = g.1 26 4 := by rw [zi_cell _ _ (by decide), (m1.1 26 rfl).1]
  have hzK : sKp f g (zi h 28 f (nI (usB P B f))) := ⟨fz_tr (k30_Bx m1) (fz_fr (fr_zi rfl _ _ _)), fun i hi => by rw [zi_else _ _ (fun e => absurd e.2 (by omega)), (m1.1 28 rfl).1], fun k _ => by show h.2.1 29 k = _; rw [(m1.1 29 rfl).2], fun k hk => m3 k (Or.inl hk), hz264⟩
  have hPz := cP_fr (K := fun c => c == 28) ⟨rfl, rfl, rfl, rfl, rfl, rfl, rfl⟩ hz hP2
  have hEz := cE_fr (K := fun c => c == 28) rfl hz hE2
  generalize zi h 28 f (nI (usB P B f)) = z at *
  have hB32 : ∀ i, i < f → B i < 32 := fun i hi => Nat.lt_of_lt_of_le (s3 i hi).2.2 (Nat.pow_le_pow_right (n := 2) (by omega) (hq5 i (by omega)))
  have hY : ∀ Y, kx B f ≤ Y → Y < kx B f + 32 ^ (5 - f) → gK P Y = true → (∀ i, i < pn P → bk Y i = upA B f (usB P B f) i) ∧ ∀ i, pn P ≤ i → i < 5 → bk Y i = 1 := fun Y h1 h2 hg => by
    obtain ⟨_, g2, g3⟩ := gK_t.mp hg
    have hr := ((kx_range (by omega) hB32).mp ⟨h1, h2⟩).2
    refine ⟨fun i hi => ?_, g2⟩
    unfold upA
    by_cases q : i = f
    · rw [if_pos q, q]; exact gB_last hO hf hr g3
    · rw [if_neg q]; exact hr i (by omega)
  by_cases hu0 : usB P B f = 0
  · rw [if_pos (by rw [hu0]; rfl)]
    refine ⟨z, rfl, hzK, lF_skip hzF (Nat.le_add_right _ _) (fun Y h1 h2 => ?_)⟩
    cases hg : gK P Y with
    | false => rfl
    | true =>
      obtain ⟨y1, _⟩ := hY Y h1 h2 hg
      have y3 := (gK_t.mp hg).2.2.1 f (by omega)
      have y4 := y1 f (by omega)
      unfold upA at y4
      rw [if_pos rfl] at y4
      omega
  · rw [if_neg (fun q => hu0 ((nN_eq0 (by omega)).mp q)), e_isGreatest hO hPz hEz hz28 hzW, Option.bind_some]
    have hnop : ∀ a, inB (upA B f (usB P B f)) 0 (pn P) a → fs P a ≠ 0 := all_usable hO hf (fun v hv => by
      unfold upA at hv
      rw [if_pos rfl, usB_bit] at hv
      exact fun q => hv.2 ((owP_congr hBu).mpr q))
    by_cases hgr : ∀ i, i < pn P → grP P (upA B f (usB P B f)) i
    · rw [dB_t.mpr hgr, if_pos rfl, if_neg (show ¬ (1 : Int32) = 0 by decide)]
      have hgB : gB P (upA B f (usB P B f)) := ⟨fun i hi => ⟨by
        unfold upA
        by_cases q : i = f
        · rw [if_pos q]; exact hu0
        · rw [if_neg q]; exact (s3 i (by omega)).2.1, (hz28 i hi).2⟩, hnop, hgr⟩
      -- the number
      have hD32 : ∀ i, i < 5 → (if i < pn P then upA B f (usB P B f) i else 1) < 32 := fun i _ => by
        split
        · next q => exact Nat.lt_of_lt_of_le (hz28 i q).2 (Nat.pow_le_pow_right (n := 2) (by omega) (hq5 i q))
        · omega
      have hZr := (kx_range (B := fun i => if i < pn P then upA B f (usB P B f) i else 1) (f := 5) (Y := kx (fun i => if i < pn P then upA B f (usB P B f) i else 1) 5) (Nat.le_refl 5) hD32).mp ⟨Nat.le_refl _, Nat.lt_succ_self _⟩
      have hZu : ∀ Y, Y < 33554432 → (∀ i, i < 5 → bk Y i = if i < pn P then upA B f (usB P B f) i else 1) → Y = kx (fun i => if i < pn P then upA B f (usB P B f) i else 1) 5 := fun Y h1 h2 => by
        have h3 := (kx_range (B := fun i => if i < pn P then upA B f (usB P B f) i else 1) (f := 5) (Y := Y) (Nat.le_refl 5) hD32).mpr ⟨h1, h2⟩
        have h4 : 32 ^ (5 - 5) = 1 := rfl
        omega
      generalize kx (fun i => if i < pn P then upA B f (usB P B f) i else 1) 5 = Z at hZr hZu
      obtain ⟨z1, z2⟩ := hZr
      have hZg : gK P Z = true := gK_t.mpr ⟨by omega, fun i hi hi5 => by rw [z2 i hi5, if_neg (by omega)], (gB_congr (fun i hi => by rw [z2 i (by omega), if_pos hi])).mpr hgB⟩
      have hZin := (kx_range (B := B) (f := f) (Y := Z) (by omega) hB32).mpr ⟨z1, fun i hi => by rw [z2 i (by omega), if_pos (by omega)]; exact (hBu i hi).symm⟩
      have hone := cnt_one (p := gK P) hZin.1 hZin.2 hZg (fun Y h1 h2 hne => by
        cases hg : gK P Y with
        | false => rfl
        | true =>
          exfalso
          obtain ⟨y1, y2⟩ := hY Y h1 h2 hg
          refine hne (hZu Y ((kx_range (by omega) hB32).mp ⟨h1, h2⟩).1 (fun i hi => ?_))
          split
          · next q => exact y1 i q
          · next q => exact y2 i (by omega) hi)
      obtain ⟨k, wk, k1, k2, k3⟩ := e_keepChosen hO hPz (fun i hi => (hz28 i hi).1) hzF hZg hone.1 hZin.1 (hb _ z1) (fun i hi => by rw [z2 i (by omega), if_pos hi])
      rw [wk, Option.bind_some, zchk_t (decide_eq_true (show h.2.2.2 ≤ k.2.2.2 from Nat.le_trans (by rw [← hz.2.2]; exact Nat.le_refl _) k1.2.2))]
      refine ⟨k, rfl, sKp_tr hzK ⟨k267_Bx k1, fun i _ => by rw [(k1.1 28 rfl).1], fun i _ => by rw [(k1.1 29 rfl).2], fun i _ => by rw [(k1.1 30 rfl).2], k3⟩, lF_skip k2 (by omega) (fun Y h1 h2 => ?_)⟩
      cases hg : gK P Y with
      | false => rfl
      | true =>
        exfalso
        obtain ⟨y1, y2⟩ := hY Y (by omega) h2 hg
        have := hZu Y ((kx_range (by omega) hB32).mp ⟨by omega, h2⟩).1 (fun i hi => by
          split
          · next q => exact y1 i q
          · next q => exact y2 i (by omega) hi)
        omega
    · rw [dB_f.mpr hgr, if_neg (show ¬ false = true by decide), if_pos rfl]
      refine ⟨z, rfl, hzK, lF_skip hzF (Nat.le_add_right _ _) (fun Y h1 h2 => ?_)⟩
      cases hg : gK P Y with
      | false => rfl
      | true =>
        exfalso
        obtain ⟨y1, _⟩ := hY Y h1 h2 hg
        have y3 := (gB_congr y1).mp (gK_t.mp hg).2.2
        exact hgr y3.2.2
end Se
