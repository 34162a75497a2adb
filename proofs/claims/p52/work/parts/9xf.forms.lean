
/-! ===== what the law asks, as numbers: forms by their number, ways ===== -/
section My
variable {P : zPl} {m : Nat → Nat} {n : Nat}
/-- how many forms the last r of n fields have -/
def mxr (m : Nat → Nat) (n : Nat) : Nat → Nat
  | 0 => 1
  | r + 1 => m (n - (r + 1)) * mxr m n r
/-- the value of the field f in the form of number k -/
def mxv (m : Nat → Nat) (n k f : Nat) : Nat := k / mxr m n (n - 1 - f) % m f
theorem mxr_dvd {r : Nat} : ∀ s, r ≤ s → mxr m n r ∣ mxr m n s
  | 0, h => by rw [Nat.le_zero.mp h]; exact Nat.dvd_refl _
  | s + 1, h => by
    by_cases q : r = s + 1
    · rw [q]; exact Nat.dvd_refl _
    · exact Nat.dvd_trans (mxr_dvd s (by omega)) (Nat.dvd_mul_left _ _)
theorem mxr_pos (hm : ∀ f, f < n → 0 < m f) : ∀ r, r ≤ n → 0 < mxr m n r
  | 0, _ => Nat.one_pos
  | r + 1, h => Nat.mul_pos (hm _ (by omega)) (mxr_pos hm r (by omega))
theorem mxv_at {r f v z y : Nat} (hf : f + r + 1 = n) (hv : v < m f) (hy : y < mxr m n r) : mxv m n (mxr m n (r + 1) * z + (v * mxr m n r + y)) f = v := by
  have e1 : n - 1 - f = r := by omega
  have e2 : n - (r + 1) = f := by omega
  have hR : 0 < mxr m n r := by omega
  unfold mxv
  rw [e1]
  have e3 : mxr m n (r + 1) * z + (v * mxr m n r + y) = mxr m n r * (m f * z + v) + y := by
    show m (n - (r + 1)) * mxr m n r * z + _ = _
    rw [e2, Nat.mul_add, Nat.mul_comm (m f) (mxr m n r), Nat.mul_assoc, Nat.mul_comm v, Nat.add_assoc]
  rw [e3, Nat.mul_add_div hR, Nat.div_eq_of_lt hy, Nat.add_zero, Nat.mul_add_mod, Nat.mod_eq_of_lt hv]
theorem mxv_keep {r g x0 y : Nat} (hg : g + r < n) (hx : mxr m n r ∣ x0) (hy : y < mxr m n r) : mxv m n (x0 + y) g = mxv m n x0 g := by
  have hR : 0 < mxr m n r := by omega
  obtain ⟨q, hq⟩ := mxr_dvd (m := m) (n := n) (r := r) (n - 1 - g) (by omega)
  obtain ⟨z, rfl⟩ := hx
  unfold mxv
  rw [hq, ← Nat.div_div_eq_div_mul, ← Nat.div_div_eq_div_mul, Nat.mul_add_div hR, Nat.div_eq_of_lt hy, Nat.add_zero, Nat.mul_div_cancel_left z hR]
/-- counted form by form, or field by field -/
theorem mx_cnt (q : (Nat → Nat) → Bool) (hq : ∀ a b : Nat → Nat, (∀ f, f < n → a f = b f) → q a = q b) (hm : ∀ f, f < n → 0 < m f) : ∀ r, r ≤ n → ∀ x0 (a : Nat → Nat), mxr m n r ∣ x0 → (∀ f, f < n - r → a f = mxv m n x0 f) → cnt (fun y => q (mxv m n (x0 + y))) (mxr m n r) = nst (fun _ _ => true) m (fun a => if q a then 1 else 0) r (n - r) a
  | 0, _, x0, a, _, ha => by
    show (if q (mxv m n (x0 + 0)) then 0 + 1 else 0) = (if q a then 1 else 0)
    rw [Nat.add_zero, hq a (mxv m n x0) (fun f hf => ha f hf), Nat.zero_add]
  | r + 1, hr, x0, a, hx, ha => by
    obtain ⟨z, hz⟩ := hx
    have hR := mxr_pos hm r (by omega)
    have hd : mxr m n r ∣ x0 := Nat.dvd_trans (mxr_dvd (r + 1) (by omega)) ⟨z, hz⟩
    obtain ⟨f, hf⟩ : ∃ f, f = n - (r + 1) := ⟨_, rfl⟩
    have hfr : n - r = f + 1 := by omega
    rw [nst_s, ← hf, show mxr m n (r + 1) = m f * mxr m n r by rw [hf]; rfl, cnt_mul]
    refine sm_congr _ (fun i hi => ?_)
    rw [if_pos rfl, ← hfr]
    have hxi : mxr m n r ∣ x0 + i * mxr m n r := (Nat.dvd_add_right hd).mpr (Nat.dvd_mul_left _ _)
    have ih := mx_cnt q hq hm r (by omega) (x0 + i * mxr m n r) (upA a f i) hxi (fun g hg => by
      unfold upA
      by_cases e : g = f
      · rw [if_pos e, e]
        have := mxv_at (m := m) (n := n) (r := r) (f := f) (v := i) (z := z) (y := 0) (by omega) hi hR
        rw [Nat.add_zero, ← hz] at this
        exact this.symm
      · rw [if_neg e, ha g (by omega)]
        refine (mxv_keep (r := r + 1) (by omega) ⟨z, hz⟩ ?_).symm
        rw [show mxr m n (r + 1) = m f * mxr m n r by rw [hf]; rfl]
        exact Nat.mul_lt_mul_of_pos_right hi hR)
    rw [← ih]
    exact cnt_congr _ (fun y _ => by rw [Nat.add_assoc])
theorem alB_eq {p q : Nat → Bool} {n : Nat} (h : ∀ i, i < n → p i = q i) : alB p n = alB q n := by
  rw [Bool.eq_iff_iff, alB_iff, alB_iff]
  exact ⟨fun k i hi => by rw [← h i hi]; exact k i hi, fun k i hi => by rw [h i hi]; exact k i hi⟩
/-- a condition of each field alone -/
theorem nst_flt {c : Nat → Nat → Bool} {p : (Nat → Nat) → Bool} : ∀ r, r ≤ n → ∀ a : Nat → Nat, nst (fun _ _ => true) m (fun a => if alB (fun f => c f (a f)) n && p a then 1 else 0) r (n - r) a = if alB (fun f => c f (a f)) (n - r) then nst c m (fun a => if p a then 1 else 0) r (n - r) a else 0
  | 0, _, a => by
    show (if alB (fun f => c f (a f)) n && p a then 1 else 0) = if alB (fun f => c f (a f)) n then (if p a then 1 else 0) else 0
    cases alB (fun f => c f (a f)) n with
    | true => rw [Bool.true_and, if_pos rfl]
    | false => rfl
  | r + 1, hr, a => by
    obtain ⟨f, hf⟩ : ∃ f, f = n - (r + 1) := ⟨_, rfl⟩
    have hfr : n - r = f + 1 := by omega
    rw [← hf, nst_s, nst_s]
    have key : ∀ v, nst (fun _ _ => true) m (fun a => if alB (fun f => c f (a f)) n && p a then 1 else 0) r (f + 1) (upA a f v) = if alB (fun f => c f (a f)) f then (if c f v then nst c m (fun a => if p a then 1 else 0) r (f + 1) (upA a f v) else 0) else 0 := fun v => by
      have ih := nst_flt (c := c) (p := p) r (by omega) (upA a f v)
      rw [hfr, alB_s] at ih
      rw [ih, alB_eq (p := fun g => c g (upA a f v g)) (q := fun g => c g (a g)) (fun i hi => by unfold upA; rw [if_neg (by omega)])]
      have e : upA a f v f = v := if_pos rfl
      rw [e]
      cases alB (fun f => c f (a f)) f with
      | true => rw [Bool.true_and, if_pos rfl]
      | false => rfl
    cases h : alB (fun f => c f (a f)) f with
    | true =>
      rw [if_pos rfl]
      refine sm_congr _ (fun v _ => ?_)
      rw [if_pos rfl, key v, h, if_pos rfl]
    | false =>
      rw [if_neg (by decide)]
      refine sm_zero _ (fun v _ => ?_)
      rw [if_pos rfl, key v, h, if_neg (by decide)]
/-- a form is one of those that pass and are as the row outside of the set -/
def isW (P : zPl) (c T k : Nat) : Bool := alB (fun f => T.testBit f || rv c f == mxv (pq P) (pn P) k f + 1) (pn P) && fs P (mxv (pq P) (pn P) k) == 0
theorem lw_ways (hO : pOK P) {c T : Nat} (hc : rOK P c) : (if mSb c T (pn P) then cnt (isW P c T) (mxr (pq P) (pn P) (pn P)) else 0) = nws P c T := by
  rw [← wyN_nws hO hc]
  unfold wyN
  cases hm : mSb c T (pn P) with
  | false => rfl
  | true =>
    rw [if_pos rfl, if_pos rfl, wy_cnt hO hc hm]
    have h1 := mx_cnt (m := pq P) (n := pn P) (fun a => alB (fun f => T.testBit f || rv c f == a f + 1) (pn P) && fs P a == 0) (fun a b h => by
      rw [alB_eq (p := fun f => T.testBit f || rv c f == a f + 1) (q := fun f => T.testBit f || rv c f == b f + 1) (fun i hi => by rw [h i hi]), fs_congr P h]) (fun f hf => by have := (hO.2.1 f hf).1; omega) (pn P) (Nat.le_refl _) 0 (fun _ => 0) ⟨0, rfl⟩ (fun f hf => by omega)
    have h2 := nst_flt (m := pq P) (n := pn P) (c := fun f v => T.testBit f || rv c f == v + 1) (p := fun a => fs P a == 0) (pn P) (Nat.le_refl _) (fun _ => 0)
    have h3 := nst_nwb hO hc hm (pn P) (Nat.le_refl _) (fun _ => 0) (fun f hf => by omega)
    rw [Nat.sub_self] at h1 h2 h3
    have h4 : red P T (lft P c T (pn P)) (fun _ => 0) 0 = lft P c T (pn P) := rfl
    rw [h4] at h3
    rw [show (alB (fun f => T.testBit f || rv c f == (fun _ => 0) f + 1) 0) = true from rfl, if_pos rfl, h3] at h2
    rw [h2] at h1
    rw [← h1]
    exact cnt_congr _ (fun y _ => by rw [Nat.zero_add]; rfl)
theorem nws_cmd (hO : pOK P) {c T : Nat} (hc : rOK P c) : cmd P c T = decide (0 < nws P c T) := by
  rw [← wyN_nws hO hc, Bool.eq_iff_iff, decide_eq_true_eq]
  exact (wyN_cmd hO hc).symm
/-- a form's digits as one number -/
def dga (a : Nat → Nat) (n : Nat) : Nat := foN (fun f s => 10 * s + a f) n 0
theorem dga_s (a : Nat → Nat) (n : Nat) : dga a (n + 1) = 10 * dga a n + a n := rfl
theorem dga_lt {a : Nat → Nat} : ∀ n, (∀ f, f < n → a f < 10) → dga a n < 10 ^ n
  | 0, _ => Nat.one_pos
  | n + 1, h => by
    have h1 := dga_lt n (fun f hf => h f (by omega))
    have h2 := h n (by omega)
    rw [dga_s, Nat.pow_succ]
    omega
theorem dga_at {a : Nat → Nat} : ∀ n, (∀ f, f < n → a f < 10) → ∀ f, f < n → dxt (dga a n) n f = a f
  | 0, _, f, hf => absurd hf (Nat.not_lt_zero f)
  | n + 1, h, f, hf => by
    have h2 := h n (by omega)
    unfold dxt
    rw [dga_s]
    by_cases q : f = n
    · rw [q, show n + 1 - 1 - n = 0 by omega, Nat.pow_zero, Nat.div_one]
      omega
    · have ih := dga_at n (fun f hf => h f (by omega)) f (by omega)
      unfold dxt at ih
      rw [show n + 1 - 1 - f = (n - 1 - f) + 1 by omega, Nat.pow_succ, Nat.mul_comm (10 ^ (n - 1 - f)) 10, ← Nat.div_div_eq_div_mul, show (10 * dga a n + a n) / 10 = dga a n by omega]
      exact ih
theorem dga_isD (hp : pn P ≠ 0) (hO : pOK P) {a : Nat → Nat} (ha : ∀ f, f < pn P → a f < pq P f) : isD P (dga a (pn P)) ∧ dga a (pn P) < 2147483648 ∧ fs P (dxt (dga a (pn P)) (pn P)) = fs P a := by
  have h5 := hO.1
  have h10 : ∀ f, f < pn P → a f < 10 := fun f hf => by
    have := ha f hf
    have := (hO.2.1 f hf).2.1
    omega
  have hl := dga_lt (pn P) h10
  have h6 : 10 ^ pn P ≤ 10 ^ 5 := Nat.pow_le_pow_right (by omega) h5
  exact ⟨⟨hp, Nat.div_eq_of_lt hl, fun f hf => by rw [dga_at (pn P) h10 f hf]; exact ha f hf⟩, by omega, fs_congr P (fun f hf => dga_at (pn P) h10 f hf)⟩
theorem dgt_dga (c : Nat) : ∀ n, dgt c n = dga (fun f => rv c f - 1) n
  | 0 => rfl
  | n + 1 => by
    show dgt c n * 10 + (rv c n - 1) = 10 * dga (fun f => rv c f - 1) n + (rv c n - 1)
    rw [dgt_dga c n, Nat.mul_comm]
end My
