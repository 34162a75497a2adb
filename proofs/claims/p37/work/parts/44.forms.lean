
/-! ===== the reference: forms as numbers ===== -/
section Mo
variable {P : zPl} {g : zS}
/-- the reference's plan -/
def mP (P : zPl) (g : zS) : Prop := g.1 42 16 = nI (pn P) ∧ g.1 42 17 = nI (pm P) ∧ g.1 42 19 = gI (pg P) ∧ (∀ f, f < pn P → g.1 51 f = nI (pq P f)) ∧ (∀ f, f < pn P → g.1 52 f = nI (pw P f)) ∧ (∀ f, f < pn P → g.1 53 f = nI (ps P f)) ∧ (∀ e, e < pm P → ∀ f, f < pn P → g.1 54 (5 * e + f) = nI (pE P e f)) ∧ ∀ f, f < 5 → g.1 58 f = nI (5 ^ (4 - f))
/-- the value of a field in a form -/
def vo (x f : Nat) : Nat := x / 5 ^ (4 - f) % 5
theorem vo_lt (x f : Nat) : vo x f < 5 := Nat.mod_lt _ (by omega)
theorem m_has {s k : Nat} (hs : s < 2147483648) (hk : k < 32) : nX11_has (nI s) (nI k) = some (if s.testBit k then 1 else 0) := by
  unfold nX11_has
  rw [nI_bit hs hk]
  cases s.testBit k <;> rfl
theorem p5_le {f : Nat} : 5 ^ (4 - f) ≤ 625 ∧ 0 < 5 ^ (4 - f) := ⟨show 5 ^ (4 - f) ≤ 5 ^ 4 from Nat.pow_le_pow_right (by omega) (by omega), Nat.pow_pos (by omega)⟩
theorem m_valueOf (hM : mP P g) {x f : Nat} (hx : x < 2147483648) (hf : f < 5) : nX11_valueOf (nI x) (nI f) g = some (nI (vo x f)) := by
  have hp := @p5_le f
  have h1 := hM.2.2.2.2.2.2.2 f hf
  unfold nX11_valueOf vo
  rw [zchk_t (zin_nI (by omega) (by omega)), nI_cl (by omega), h1, zchk_t (by rw [bne_iff_ne]; exact fun q => absurd ((nN_eq0 (by omega)).mp q) (by omega)), nI_div hx (by omega), show (5 : Int32) = nI 5 from rfl]
  have hle : x / 5 ^ (4 - f) ≤ x := Nat.div_le_self _ _
  rw [nI_div (by omega) (by omega), nI_mul, nI_sub (Nat.div_mul_le_self _ _)]
  have := Nat.mod_add_div (x / 5 ^ (4 - f)) 5
  rw [show x / 5 ^ (4 - f) - x / 5 ^ (4 - f) / 5 * 5 = x / 5 ^ (4 - f) % 5 by omega]
/-- how many values a field has; one beyond the last -/
def mq (P : zPl) (f : Nat) : Nat := if f < pn P then pq P f else 1
theorem m_manyOf (hO : pOK P) (hM : mP P g) {f : Nat} (hf : f < 5) : nX11_manyOf (nI f) g = some (nI (mq P f)) := by
  have h5 := hO.1
  unfold nX11_manyOf mq
  rw [hM.1]
  by_cases c : f < pn P
  · rw [if_neg (by rw [nN_le (by omega) (by omega)]; omega), zchk_t (zin_nI (by omega) (by omega)), nI_cl (by omega), hM.2.2.2.1 f c, if_pos c]
  · rw [if_pos ((nN_le (by omega) (by omega)).mpr (by omega)), if_neg c]; rfl
theorem mq_le (hO : pOK P) (f : Nat) : 1 ≤ mq P f ∧ mq P f ≤ 5 := by
  unfold mq
  split
  · next c => have := hO.2.1 f c; omega
  · omega
theorem m_all (hO : pOK P) (hM : mP P g) {f : Nat} (hf : f < 5) : nX11_all (nI f) g = some (nI (2 ^ mq P f - 1)) := by
  have h := mq_le hO f
  unfold nX11_all
  rw [m_manyOf hO hM hf, Option.bind_some, nI_shl (by omega), show (1 : Int32) = nI 1 from rfl, nI_sub (Nat.two_pow_pos _)]
end Mo
