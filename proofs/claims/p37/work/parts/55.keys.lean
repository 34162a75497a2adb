
/-! ===== boxes by their numbers; the list of those found ===== -/
/-- the number of a box's first f sets -/
def kx (B : Nat → Nat) (f : Nat) : Nat := foN (fun i a => a + B i * 32 ^ (4 - i)) f 0
theorem kx_s (B : Nat → Nat) (f : Nat) : kx B (f + 1) = kx B f + B f * 32 ^ (4 - f) := rfl
theorem kx_congr {B C : Nat → Nat} : ∀ f, (∀ i, i < f → B i = C i) → kx B f = kx C f := by
  intro f
  induction f with
  | zero => intro _; rfl
  | succ f ih => intro h; rw [kx_s, kx_s, ih (fun i hi => h i (by omega)), h f (by omega)]
theorem bk_0 (X : Nat) : bk X 0 = X / 1048576 % 32 := rfl
theorem bk_1 (X : Nat) : bk X 1 = X / 32768 % 32 := rfl
theorem bk_2 (X : Nat) : bk X 2 = X / 1024 % 32 := rfl
theorem bk_3 (X : Nat) : bk X 3 = X / 32 % 32 := rfl
theorem bk_4 (X : Nat) : bk X 4 = X % 32 := by
  show X / 1 % 32 = _
  rw [Nat.div_one]
/-- the numbers that begin with f sets -/
theorem kx_range {B : Nat → Nat} {f Y : Nat} (hf : f ≤ 5) (hB : ∀ i, i < f → B i < 32) : (kx B f ≤ Y ∧ Y < kx B f + 32 ^ (5 - f)) ↔ Y < 33554432 ∧ ∀ i, i < f → bk Y i = B i := by
  have hc : f = 0 ∨ f = 1 ∨ f = 2 ∨ f = 3 ∨ f = 4 ∨ f = 5 := by omega
  rcases hc with rfl | rfl | rfl | rfl | rfl | rfl
  · show (0 ≤ Y ∧ Y < 0 + 33554432) ↔ _
    exact ⟨fun h => ⟨by omega, fun i hi => absurd hi (Nat.not_lt_zero i)⟩, fun h => by omega⟩
  · have b0 := hB 0 (by omega)
    show (0 + B 0 * 1048576 ≤ Y ∧ Y < 0 + B 0 * 1048576 + 1048576) ↔ _
    constructor
    · intro h
      refine ⟨by omega, fun i hi => ?_⟩
      rw [show i = 0 by omega, bk_0]
      omega
    · rintro ⟨h, k⟩
      have k0 := k 0 (by omega)
      rw [bk_0] at k0
      omega
  · have b0 := hB 0 (by omega)
    have b1 := hB 1 (by omega)
    show (0 + B 0 * 1048576 + B 1 * 32768 ≤ Y ∧ Y < 0 + B 0 * 1048576 + B 1 * 32768 + 32768) ↔ _
    constructor
    · intro h
      refine ⟨by omega, fun i hi => ?_⟩
      have hc : i = 0 ∨ i = 1 := by omega
      rcases hc with rfl | rfl
      · rw [bk_0]; omega
      · rw [bk_1]; omega
    · rintro ⟨h, k⟩
      have k0 := k 0 (by omega)
      have k1 := k 1 (by omega)
      rw [bk_0] at k0
      rw [bk_1] at k1
      omega
  · have b0 := hB 0 (by omega)
    have b1 := hB 1 (by omega)
    have b2 := hB 2 (by omega)
    show (0 + B 0 * 1048576 + B 1 * 32768 + B 2 * 1024 ≤ Y ∧ Y < 0 + B 0 * 1048576 + B 1 * 32768 + B 2 * 1024 + 1024) ↔ _
    constructor
    · intro h
      refine ⟨by omega, fun i hi => ?_⟩
      have hc : i = 0 ∨ i = 1 ∨ i = 2 := by omega
      rcases hc with rfl | rfl | rfl
      · rw [bk_0]; omega
      · rw [bk_1]; omega
      · rw [bk_2]; omega
    · rintro ⟨h, k⟩
      have k0 := k 0 (by omega)
      have k1 := k 1 (by omega)
      have k2 := k 2 (by omega)
      rw [bk_0] at k0
      rw [bk_1] at k1
      rw [bk_2] at k2
      omega
  · have b0 := hB 0 (by omega)
    have b1 := hB 1 (by omega)
    have b2 := hB 2 (by omega)
    have b3 := hB 3 (by omega)
    show (0 + B 0 * 1048576 + B 1 * 32768 + B 2 * 1024 + B 3 * 32 ≤ Y ∧ Y < 0 + B 0 * 1048576 + B 1 * 32768 + B 2 * 1024 + B 3 * 32 + 32) ↔ _
    constructor
    · intro h
      refine ⟨by omega, fun i hi => ?_⟩
      have hc : i = 0 ∨ i = 1 ∨ i = 2 ∨ i = 3 := by omega
      rcases hc with rfl | rfl | rfl | rfl
      · rw [bk_0]; omega
      · rw [bk_1]; omega
      · rw [bk_2]; omega
      · rw [bk_3]; omega
    · rintro ⟨h, k⟩
      have k0 := k 0 (by omega)
      have k1 := k 1 (by omega)
      have k2 := k 2 (by omega)
      have k3 := k 3 (by omega)
      rw [bk_0] at k0
      rw [bk_1] at k1
      rw [bk_2] at k2
      rw [bk_3] at k3
      omega
  · have b0 := hB 0 (by omega)
    have b1 := hB 1 (by omega)
    have b2 := hB 2 (by omega)
    have b3 := hB 3 (by omega)
    have b4 := hB 4 (by omega)
    show (0 + B 0 * 1048576 + B 1 * 32768 + B 2 * 1024 + B 3 * 32 + B 4 * 1 ≤ Y ∧ Y < 0 + B 0 * 1048576 + B 1 * 32768 + B 2 * 1024 + B 3 * 32 + B 4 * 1 + 1) ↔ _
    constructor
    · intro h
      refine ⟨by omega, fun i hi => ?_⟩
      have hc : i = 0 ∨ i = 1 ∨ i = 2 ∨ i = 3 ∨ i = 4 := by omega
      rcases hc with rfl | rfl | rfl | rfl | rfl
      · rw [bk_0]; omega
      · rw [bk_1]; omega
      · rw [bk_2]; omega
      · rw [bk_3]; omega
      · rw [bk_4]; omega
    · rintro ⟨h, k⟩
      have k0 := k 0 (by omega)
      have k1 := k 1 (by omega)
      have k2 := k 2 (by omega)
      have k3 := k 3 (by omega)
      have k4 := k 4 (by omega)
      rw [bk_0] at k0
      rw [bk_1] at k1
      rw [bk_2] at k2
      rw [bk_3] at k3
      rw [bk_4] at k4
      omega
theorem cnt_none {p : Nat → Bool} {A : Nat} : ∀ {C}, A ≤ C → (∀ Y, A ≤ Y → Y < C → p Y = false) → cnt p C = cnt p A := by
  intro C
  induction C with
  | zero => intro h _; rw [Nat.le_zero.mp h]
  | succ C ih =>
    intro h q
    by_cases c : A = C + 1
    · rw [c]
    · rw [cnt_s, q C (by omega) (by omega), if_neg (by decide)]
      exact ih (by omega) (fun Y h1 h2 => q Y h1 (by omega))
theorem cnt_one {p : Nat → Bool} {A C Z : Nat} (h1 : A ≤ Z) (h2 : Z < C) (hp : p Z = true) (h : ∀ Y, A ≤ Y → Y < C → Y ≠ Z → p Y = false) : cnt p Z = cnt p A ∧ cnt p C = cnt p A + 1 := by
  have e1 : cnt p Z = cnt p A := cnt_none h1 (fun Y a b => h Y a (by omega) (by omega))
  refine ⟨e1, ?_⟩
  have e2 : cnt p C = cnt p (Z + 1) := cnt_none (by omega) (fun Y a b => h Y (by omega) b (by omega))
  rw [e2, cnt_s, hp, if_pos rfl, e1]
/-- two that have it are not counted alike -/
theorem cnt_inj {p : Nat → Bool} {Y Z : Nat} (hY : p Y = true) (hZ : p Z = true) (h : cnt p Y = cnt p Z) : Y = Z := by
  have go : ∀ {Y Z : Nat}, p Y = true → Y < Z → cnt p Y < cnt p Z := fun {Y Z} hY q => by
    have := cnt_mono p (i := Y + 1) Z q
    rw [cnt_s, hY, if_pos rfl] at this
    omega
  by_cases q : Y < Z
  · have := go hY q; omega
  · by_cases q2 : Z < Y
    · have := go hZ q2; omega
    · omega
/-- a box as one number of the class: five bits a field, field 0 lowest -/
def enC (B : Nat → Nat) (n : Nat) : Nat := foN (fun f a => a ||| (B f <<< (5 * f))) n 0
theorem enC_s (B : Nat → Nat) (n : Nat) : enC B (n + 1) = enC B n ||| (B n <<< (5 * n)) := rfl
theorem enC_congr {B C : Nat → Nat} : ∀ n, (∀ i, i < n → B i = C i) → enC B n = enC C n := by
  intro n
  induction n with
  | zero => intro _; rfl
  | succ n ih => intro h; rw [enC_s, enC_s, ih (fun i hi => h i (by omega)), h n (by omega)]
theorem enC_lt {B : Nat → Nat} : ∀ n, (∀ i, i < n → B i < 32) → enC B n < 2 ^ (5 * n) := by
  intro n
  induction n with
  | zero => intro _; exact Nat.one_pos
  | succ n ih =>
    intro h
    rw [enC_s]
    refine Nat.or_lt_two_pow (Nat.lt_of_lt_of_le (ih (fun i hi => h i (by omega))) (Nat.pow_le_pow_right (by omega) (by omega))) ?_
    rw [Nat.shiftLeft_eq, show 5 * (n + 1) = 5 + 5 * n by omega, Nat.pow_add]
    exact Nat.mul_lt_mul_of_pos_right (h n (by omega)) (Nat.two_pow_pos _)
theorem lt32_bit {x i : Nat} (hx : x < 32) (hi : ¬ i < 5) : x.testBit i = false := Nat.testBit_lt_two_pow (Nat.lt_of_lt_of_le hx (by rw [show 32 = 2 ^ 5 from rfl]; exact Nat.pow_le_pow_right (by omega) (by omega)))
theorem enC_bit {B : Nat → Nat} : ∀ n, (∀ i, i < n → B i < 32) → ∀ f v, v < 5 → (enC B n).testBit (5 * f + v) = (decide (f < n) && (B f).testBit v) := by
  intro n
  induction n with
  | zero => intro _ f v _; rw [show enC B 0 = 0 from rfl, Nat.zero_testBit, decide_eq_false (Nat.not_lt_zero f)]; rfl
  | succ n ih =>
    intro h f v hv
    rw [enC_s, Nat.testBit_or, ih (fun i hi => h i (by omega)) f v hv, Nat.testBit_shiftLeft]
    by_cases q : f = n
    · subst q
      rw [decide_eq_false (Nat.lt_irrefl f), Bool.false_and, Bool.false_or, decide_eq_true (show 5 * f + v ≥ 5 * f by omega), decide_eq_true (Nat.lt_succ_self f), show 5 * f + v - 5 * f = v by omega]
    · by_cases q2 : f < n
      · rw [decide_eq_true q2, decide_eq_true (show f < n + 1 by omega), decide_eq_false (show ¬ 5 * f + v ≥ 5 * n by omega)]
        simp
      · rw [decide_eq_false q2, decide_eq_false (show ¬ f < n + 1 by omega), Bool.false_and, Bool.false_or, lt32_bit (h n (by omega)) (show ¬ 5 * f + v - 5 * n < 5 by omega), Bool.and_false]
theorem enC_get {B : Nat → Nat} {n f : Nat} (h : ∀ i, i < n → B i < 32) (hf : f < n) : (enC B n >>> (5 * f)) &&& 31 = B f := by
  apply Nat.eq_of_testBit_eq
  intro v
  rw [Nat.testBit_and, Nat.testBit_shiftRight, show (31 : Nat) = 2 ^ 5 - 1 from rfl, Nat.testBit_two_pow_sub_one]
  by_cases hv : v < 5
  · rw [enC_bit n h f v hv, decide_eq_true hf, decide_eq_true hv]
    simp
  · rw [decide_eq_false hv, lt32_bit (h f hf) hv, Bool.and_false]
/-- the list of the boxes found whose numbers are below X -/
def lF (P : zPl) (X : Nat) (g : zS) : Prop := g.1 26 3 = nI (cnt (gK P) X) ∧ cnt (gK P) X ≤ g.2.2.2 ∧ 64 ≤ g.2.2.2 ∧ g.2.2.2 ≤ 2097152 ∧ ∀ Y, Y < X → gK P Y = true → g.1 27 (cnt (gK P) Y) = nI (enC (bk Y) (pn P))
section Kx
variable {P : zPl} {g : zS} {B : Nat → Nat}
/-- frames in which the row that grows may grow -/
def fz (K : Nat → Bool) (g h : zS) : Prop := (∀ c, K c = false → h.1 c = g.1 c ∧ h.2.1 c = g.2.1 c) ∧ (g.2.2.1 ≤ 1 → h.2.2.1 ≤ 1) ∧ g.2.2.2 ≤ h.2.2.2
theorem fz_fr {K : Nat → Bool} {g h : zS} (a : fr K g h) : fz K g h := ⟨a.1, a.2.1, by rw [a.2.2]; exact Nat.le_refl _⟩
theorem fz_tr {K : Nat → Bool} {g h k : zS} (a : fz K g h) (b : fz K h k) : fz K g k := ⟨fun c hc => ⟨(b.1 c hc).1.trans (a.1 c hc).1, (b.1 c hc).2.trans (a.1 c hc).2⟩, fun q => b.2.1 (a.2.1 q), Nat.le_trans a.2.2 b.2.2⟩
theorem fz_le {K L : Nat → Bool} (q : ∀ c, L c = false → K c = false) {g h : zS} (a : fz K g h) : fz L g h := ⟨fun c hc => a.1 c (q c hc), a.2⟩
theorem cP_fz {K : Nat → Bool} {h : zS} (hK : K 3 = false ∧ K 4 = false ∧ K 5 = false ∧ K 6 = false ∧ K 7 = false ∧ K 8 = false ∧ K 9 = false) (a : fz K g h) (p : cP P g) : cP P h := by
  unfold cP at p ⊢
  rw [(a.1 3 hK.1).1, (a.1 4 hK.2.1).1, (a.1 5 hK.2.2.1).1, (a.1 6 hK.2.2.2.1).1, (a.1 7 hK.2.2.2.2.1).1, (a.1 8 hK.2.2.2.2.2.1).1, (a.1 9 hK.2.2.2.2.2.2).1]
  exact p
theorem cE_fz {K : Nat → Bool} {h : zS} (hK : K 21 = false) (a : fz K g h) (p : cE P g) : cE P h := by
  unfold cE at p ⊢
  rw [(a.1 21 hK).1]
  exact p
/-- the cells of the boxes -/
def kBx (c : Nat) : Bool := decide (26 ≤ c) && decide (c ≤ 30)
def k267 (c : Nat) : Bool := c == 26 || c == 27
theorem e_kc33 (hO : pOK P) (hP : cP P g) (hX : ∀ f, f < pn P → g.1 28 f = nI (B f)) {c : Nat} (hc : g.1 26 3 = nI c) (hl : c < g.2.2.2) (hl2 : g.2.2.2 ≤ 2097152) : wh (wX0_keepChosen_33 g) ((0 : Int32), (0 : Int32)) = some (zi (zi g 27 c (nI (enC B (pn P)))) 26 3 (nI (c + 1))) := by
  have h5 := hO.1
  refine wh_seq (fun f => (nI (enC B f), nI f)) (pn P) (fun f hf => ?_) ?_
  · dsimp only [wX0_keepChosen_33]
    rw [hP.1, if_neg (by rw [nN_le (by omega) (by omega)]; omega), zchk_t (zin_nI (by omega) (by omega)), nI_cl (by omega), hX f hf, show (5 : Int32) = nI 5 from rfl, nI_mul, nI_shlg (by omega), nI_or, nI_s, enC_s]
  · dsimp only [wX0_keepChosen_33]
    rw [hP.1, if_pos (Int32.le_refl _), hc, zchk_t (zin_nI hl (by omega)), nI_cl (by omega), zi_else _ _ (show ¬ (26 = 27 ∧ 3 = c) by omega), hc, nI_s]
    rfl
theorem e_keepChosen (hO : pOK P) (hP : cP P g) (hX : ∀ f, f < pn P → g.1 28 f = nI (B f)) {X Z : Nat} (hF : lF P X g) (hZ : gK P Z = true) (hcz : cnt (gK P) Z = cnt (gK P) X) (hXZ : X ≤ Z) (hb : cnt (gK P) (Z + 1) ≤ 1048576) (hZB : ∀ f, f < pn P → bk Z f = B f) : ∃ h, nX0_keepChosen g = some h ∧ fz k267 g h ∧ lF P (Z + 1) h ∧ h.1 26 4 = g.1 26 4 := by
  obtain ⟨f1, f2, f3, f4, f5⟩ := hF
  have ez : cnt (gK P) (Z + 1) = cnt (gK P) X + 1 := by rw [cnt_s, hZ, if_pos rfl, hcz]
  have fin : ∀ {g' : zS}, fz k267 g g' → cP P g' → (∀ f, f < pn P → g'.1 28 f = nI (B f)) → g'.1 26 3 = nI (cnt (gK P) X) → g'.1 26 4 = g.1 26 4 → cnt (gK P) X < g'.2.2.2 → g'.2.2.2 ≤ 2097152 → (∀ Y, Y < X → gK P Y = true → g'.1 27 (cnt (gK P) Y) = nI (enC (bk Y) (pn P))) → ∃ h, wh (wX0_keepChosen_33 g') ((0 : Int32), (0 : Int32)) = some h ∧ fz k267 g h ∧ lF P (Z + 1) h ∧ h.1 26 4 = g.1 26 4 := fun {g'} a1 a2 a3 a4 a9 a5 a6 a7 => by
    refine ⟨_, e_kc33 hO a2 a3 a4 a5 a6, fz_tr a1 (fz_fr (fr_tr (fr_zi rfl _ _ _) (fr_zi rfl _ _ _))), ⟨?_, ?_, ?_, ?_, fun Y hY hg => ?_⟩, ?_⟩
    · rw [zi_at, ez]
    · show _ ≤ g'.2.2.2
      rw [ez]; exact a5
    · show 64 ≤ g'.2.2.2
      exact Nat.le_trans f3 a1.2.2
    · exact a6
    · rw [zi_cell _ _ (show 27 ≠ 26 by decide)]
      by_cases q : Y = Z
      · subst q
        rw [hcz, zi_at, enC_congr _ hZB]
      · have hYX : Y < X := by
          by_cases q2 : Y < X
          · exact q2
          · exfalso
            have h1 := cnt_mono (gK P) (i := Y + 1) Z (by omega)
            have h2 := cnt_mono (gK P) (i := X) Y (by omega)
            rw [cnt_s, hg, if_pos rfl] at h1
            omega
        rw [zi_else _ _ (fun e => ?_)]
        · exact a7 Y hYX hg
        · have h1 := cnt_mono (gK P) (i := Y + 1) X hYX
          rw [cnt_s, hg, if_pos rfl] at h1
          omega
    · rw [zi_else _ _ (show ¬ (26 = 26 ∧ 4 = 3) by omega), zi_else _ _ (show ¬ (26 = 27 ∧ 4 = cnt (gK P) X) by omega)]
      exact a9
  unfold nX0_keepChosen
  rw [f1]
  by_cases q : cnt (gK P) X = g.2.2.2
  · rw [if_pos (by rw [q]), zchk_t (show zgro g = true by
      unfold zgro
      rw [f1, q, decide_eq_true rfl, decide_eq_true f3, decide_eq_true (show g.2.2.2 ≤ 1048576 by omega)]; rfl)]
    have hgr : fz k267 g (zgrow g) := ⟨fun c hc => ⟨by
      have : c ≠ 27 := fun e => by rw [e] at hc; cases hc
      funext k
      show (if c = 27 then _ else g.1 c k) = g.1 c k
      rw [if_neg this], rfl⟩, id, by show g.2.2.2 ≤ 2 * g.2.2.2; omega⟩
    refine fin hgr (cP_fz ⟨rfl, rfl, rfl, rfl, rfl, rfl, rfl⟩ hgr hP) (fun f hf => by rw [(hgr.1 28 rfl).1]; exact hX f hf) ?_ rfl (show _ < 2 * g.2.2.2 by omega) (show 2 * g.2.2.2 ≤ 2097152 by omega) (fun Y hY hg => ?_)
    · show g.1 26 3 = _
      exact f1
    · have h1 := cnt_mono (gK P) (i := Y + 1) X hY
      rw [cnt_s, hg, if_pos rfl] at h1
      show (if cnt (gK P) Y < g.2.2.2 then g.1 27 (cnt (gK P) Y) else 0) = _
      rw [if_pos (by omega)]
      exact f5 Y hY hg
  · rw [if_neg (fun e => q ((nN_eq (by omega) (by omega)).mp e))]
    exact fin ⟨fun _ _ => ⟨rfl, rfl⟩, id, Nat.le_refl _⟩ hP hX f1 rfl (by omega) f4 f5
end Kx
