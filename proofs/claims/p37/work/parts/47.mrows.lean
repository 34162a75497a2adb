
/-! ===== the reference: rows ===== -/
section Mr
variable {P : zPl} {g : zS} {N : Nat} {r : Nat → Nat}
/-- the reference's rows -/
def mR (P : zPl) (N : Nat) (r : Nat → Nat) (g : zS) : Prop := g.1 42 18 = nI N ∧ N ≤ 40 ∧ ∀ k, k < N → (∀ f, f < pn P → g.1 55 (5 * k + f) = nJ (rv (r k) f)) ∧ rOK P (r k)
theorem m_of (hR : mR P N r g) (h5 : pn P ≤ 5) {i f : Nat} (hi : i < N) (hf : f < pn P) : nX11_of (nI i) (nI f) g = some (nJ (rv (r i) f)) := by
  obtain ⟨r1, r2, r3⟩ := hR
  unfold nX11_of
  rw [show (5 : Int32) = nI 5 from rfl, nI_mul, nN_add, zchk_t (zin_nI (by omega) (by omega)), nI_cl (by omega), (r3 i hi).1 f hf]
theorem bS_one (b : Nat → Bool) (n : Nat) : bS b n ||| (if b n then 2 ^ n else 0) = bS b (n + 1) := by
  rw [bS_s]
  cases b n with
  | true => rfl
  | false => rw [if_neg (by decide), if_neg (by decide), Nat.or_zero]
theorem m_missing (hO : pOK P) (hM : mP P g) (hR : mR P N r g) {i : Nat} (hi : i < N) : nX11_missing (nI i) g = some (nI (rmis (r i) (pn P))) := by
  have h5 := hO.1
  unfold nX11_missing rmis
  refine wh_seq (fun f => (nI (bS (fun f => rv (r i) f == 0) f), nI f)) (pn P) (fun f hf => ?_) ?_
  · have hv := rv_lt (r i) f
    dsimp only [wX11_missing_4]
    rw [hM.1, if_neg (by rw [nN_le (by omega) (by omega)]; omega), m_of hR h5 hi hf, Option.bind_some, nI_s, ← bS_one]
    by_cases c : rv (r i) f = 0
    · rw [if_pos ((nJ_m1 (by omega)).mpr c), nI_shl (by omega), nI_or, show (rv (r i) f == 0) = true from by simp [c], if_pos rfl]
    · rw [if_neg (fun q => c ((nJ_m1 (by omega)).mp q)), show (0 : Int32) = nI 0 from rfl, nI_or, show (rv (r i) f == 0) = false from by simp [c], if_neg (by decide)]
  · dsimp only [wX11_missing_4]
    rw [hM.1, if_pos (Int32.le_refl _)]
    rfl
/-- the number of a form -/
def fno (a : Nat → Nat) (n : Nat) : Nat := foN (fun f s => s + 5 ^ (4 - f) * a f) n 0
theorem fno_s (a : Nat → Nat) (n : Nat) : fno a (n + 1) = fno a n + 5 ^ (4 - n) * a n := rfl
theorem fno_congr {a b : Nat → Nat} : ∀ n, (∀ f, f < n → a f = b f) → fno a n = fno b n := by
  intro n
  induction n with
  | zero => intro _; rfl
  | succ n ih => intro h; rw [fno_s, fno_s, ih (fun f hf => h f (by omega)), h n (by omega)]
theorem fno_ext (a : Nat → Nat) (n : Nat) : ∀ k, fno (fun f => if f < n then a f else 0) (n + k) = fno a n := by
  intro k
  induction k with
  | zero => exact fno_congr n (fun f hf => if_pos hf)
  | succ k ih =>
    rw [← Nat.add_assoc, fno_s, ih, if_neg (by omega), Nat.mul_zero, Nat.add_zero]
theorem fno_5 (a : Nat → Nat) : fno a 5 = 625 * a 0 + 125 * a 1 + 25 * a 2 + 5 * a 3 + a 4 := by
  show 0 + 5 ^ 4 * a 0 + 5 ^ 3 * a 1 + 5 ^ 2 * a 2 + 5 ^ 1 * a 3 + 5 ^ 0 * a 4 = _
  omega
theorem vo_fno {a : Nat → Nat} {n : Nat} (hn : n ≤ 5) (ha : ∀ f, f < n → a f < 5) : fno a n < 3125 ∧ ∀ f, f < 5 → vo (fno a n) f = if f < n then a f else 0 := by
  have e := fno_ext a n (5 - n)
  rw [show n + (5 - n) = 5 by omega] at e
  have hb : ∀ f, f < 5 → (if f < n then a f else 0) < 5 := fun f _ => by
    split
    · next c => exact ha f c
    · omega
  rw [← e, fno_5]
  have b0 := hb 0 (by omega)
  have b1 := hb 1 (by omega)
  have b2 := hb 2 (by omega)
  have b3 := hb 3 (by omega)
  have b4 := hb 4 (by omega)
  refine ⟨by omega, fun f hf => ?_⟩
  have hc : f = 0 ∨ f = 1 ∨ f = 2 ∨ f = 3 ∨ f = 4 := by omega
  unfold vo
  rcases hc with rfl | rfl | rfl | rfl | rfl
  · show _ / 625 % 5 = _
    omega
  · show _ / 125 % 5 = _
    omega
  · show _ / 25 % 5 = _
    omega
  · show _ / 5 % 5 = _
    omega
  · show _ / 1 % 5 = _
    omega
theorem m_formOf (hO : pOK P) (hM : mP P g) (hR : mR P N r g) {i : Nat} (hi : i < N) : nX11_formOf (nI i) g = some (nI (fno (fun f => rv (r i) f - 1) (pn P))) := by
  have h5 := hO.1
  unfold nX11_formOf
  refine wh_seq (fun f => (nI (fno (fun f => rv (r i) f - 1) f), nI f)) (pn P) (fun f hf => ?_) ?_
  · have hv := rv_lt (r i) f
    dsimp only [wX11_formOf_4]
    rw [hM.1, if_neg (by rw [nN_le (by omega) (by omega)]; omega), zchk_t (zin_nI (by omega) (by omega)), nI_cl (by omega), hM.2.2.2.2.2.2.2 f (by omega), m_of hR h5 hi hf, Option.bind_some, Option.bind_some, fno_s, nI_s]
    by_cases c : rv (r i) f = 0
    · rw [if_pos ((nJ_m1 (by omega)).mpr c), show (0 : Int32) = nI 0 from rfl, nI_mul, nN_add, c]
    · rw [if_neg (fun q => c ((nJ_m1 (by omega)).mp q)), show nJ (rv (r i) f) = nI (rv (r i) f - 1) by rw [← nJ_s, show rv (r i) f - 1 + 1 = rv (r i) f by omega], nI_mul, nN_add]
  · dsimp only [wX11_formOf_4]
    rw [hM.1, if_pos (Int32.le_refl _)]
    rfl
/-- a number is a form that passes -/
def psF (P : zPl) (x : Nat) : Bool := isF5 P x && fsM P x == 0
theorem m_passes (hO : pOK P) (hF : mF P g) {x : Nat} (hx : x < 3125) : nX11_passes (nI x) g = some (if psF P x then 1 else 0) := by
  obtain ⟨f1, f2⟩ := hF x hx
  have hlt : fsM P x < 64 := by
    have h6 := p2m hO
    unfold fsM
    split
    · have : fs P (vo x) < 2 ^ pm P := bS_lt _ _
      omega
    · omega
  unfold nX11_passes psF
  rw [zchk_t (zin_nI hx (by omega)), nI_cl (by omega), f1]
  cases isF5 P x with
  | false => rw [if_pos ((bI_0 false).mpr rfl)]; rfl
  | true =>
    rw [if_neg (fun q => absurd ((bI_0 true).mp q) (by decide)), zchk_t (zin_nI hx (by omega)), f2, Bool.true_and]
    by_cases c : fsM P x = 0
    · rw [if_pos (by rw [c]; rfl), c]; rfl
    · rw [if_neg (fun q => c ((nN_eq0 (by omega)).mp q)), show (fsM P x == 0) = false from by simp [c]]; rfl
/-- the number of a form is a form, and fails what the form fails -/
theorem fno_form (hO : pOK P) {a : Nat → Nat} (ha : ∀ f, f < pn P → a f < pq P f) : fno a (pn P) < 3125 ∧ isF5 P (fno a (pn P)) = true ∧ fsM P (fno a (pn P)) = fs P a := by
  have h5 := hO.1
  obtain ⟨v1, v2⟩ := vo_fno (a := a) h5 (fun f hf => by have := ha f hf; have := (hO.2.1 f hf).2.1; omega)
  have hF : isF5 P (fno a (pn P)) = true := by
    unfold isF5
    rw [alB_iff]
    intro f hf
    rw [v2 f hf, decide_eq_true_eq]
    unfold mq
    split
    · next c => exact ha f c
    · omega
  refine ⟨v1, hF, ?_⟩
  unfold fsM
  rw [hF, if_pos rfl]
  exact fs_congr P (fun f hf => by rw [v2 f (by omega), if_pos hf])
end Mr
