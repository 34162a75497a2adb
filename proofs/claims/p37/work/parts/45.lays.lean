
/-! ===== the reference: which edits each form fails ===== -/
/-- all below n -/
def alB (p : Nat → Bool) (n : Nat) : Bool := foN (fun f b => b && p f) n true
theorem alB_s (p : Nat → Bool) (n : Nat) : alB p (n + 1) = (alB p n && p n) := rfl
theorem alB_iff (p : Nat → Bool) : ∀ n, alB p n = true ↔ ∀ i, i < n → p i = true := by
  intro n
  induction n with
  | zero => exact ⟨fun _ i hi => absurd hi (Nat.not_lt_zero i), fun _ => rfl⟩
  | succ n ih =>
    rw [alB_s, Bool.and_eq_true, ih]
    constructor
    · rintro ⟨h1, h2⟩ i hi
      by_cases q : i = n
      · rw [q]; exact h2
      · exact h1 i (by omega)
    · intro h
      exact ⟨fun i hi => h i (by omega), h n (by omega)⟩
section Mp
variable {P : zPl} {g : zS}
def bI (b : Bool) : Int32 := if b then 1 else 0
theorem bI_0 (b : Bool) : bI b = 0 ↔ b = false := by cases b <;> decide
/-- a number is a form -/
def isF5 (P : zPl) (x : Nat) : Bool := alB (fun f => decide (vo x f < mq P f)) 5
/-- the edits that a number fails, none where it is no form -/
def fsM (P : zPl) (x : Nat) : Nat := if isF5 P x then fs P (vo x) else 0
def mF (P : zPl) (g : zS) : Prop := ∀ x, x < 3125 → g.1 57 x = bI (isF5 P x) ∧ g.1 56 x = nI (fsM P x)
def kLy (c : Nat) : Bool := c == 56 || c == 57
theorem mP_fr {K : Nat → Bool} {h : zS} (hK : K 42 = false ∧ K 51 = false ∧ K 52 = false ∧ K 53 = false ∧ K 54 = false ∧ K 58 = false) (a : fr K g h) (p : mP P g) : mP P h := by
  unfold mP at p ⊢
  rw [(a.1 42 hK.1).1, (a.1 51 hK.2.1).1, (a.1 52 hK.2.2.1).1, (a.1 53 hK.2.2.2.1).1, (a.1 54 hK.2.2.2.2.1).1, (a.1 58 hK.2.2.2.2.2).1]
  exact p
/-- an edit that a form fails -/
def eF (P : zPl) (x e : Nat) : Bool := alB (fun f => (pE P e f).testBit (vo x f)) (pn P)
theorem fs_eF (P : zPl) (x : Nat) : fs P (vo x) = bS (eF P x) (pm P) := bS_congr _ (fun e _ => by
  rw [Bool.eq_iff_iff, decide_eq_true_eq]
  exact (alB_iff _ _).symm)
/-- only the places x of two cells change -/
def lyX (x : Nat) (g h : zS) : Prop := fr kLy g h ∧ ∀ y, y ≠ x → h.1 57 y = g.1 57 y ∧ h.1 56 y = g.1 56 y
theorem lyX_tr {x : Nat} {g h k : zS} (a : lyX x g h) (b : lyX x h k) : lyX x g k := ⟨fr_tr a.1 b.1, fun y hy => ⟨(b.2 y hy).1.trans (a.2 y hy).1, (b.2 y hy).2.trans (a.2 y hy).2⟩⟩
theorem lyX_57 (x : Nat) (g : zS) (v : Int32) : lyX x g (zi g 57 x v) := ⟨fr_zi rfl _ _ _, fun y hy => ⟨zi_else _ _ (fun e => hy e.2), by rw [zi_cell _ _ (by decide)]⟩⟩
theorem lyX_56 (x : Nat) (g : zS) (v : Int32) : lyX x g (zi g 56 x v) := ⟨fr_zi rfl _ _ _, fun y hy => ⟨by rw [zi_cell _ _ (by decide)], zi_else _ _ (fun e => hy e.2)⟩⟩
theorem m_lays99 (hO : pOK P) (hM : mP P g) {x e : Nat} (hx : x < 3125) (he : e < pm P) (h6 : g.1 56 x = nI (bS (eF P x) e)) : wh (wX11_lays_99 (nI x) (nI e) g) ((1 : Int32), (0 : Int32)) = some (.inl (nI (e + 1), zi g 56 x (nI (bS (eF P x) (e + 1))))) := by
  have h5 := hO.1
  have hm := hO.2.2.2.1
  refine wh_seq (fun f => (bI (alB (fun f => (pE P e f).testBit (vo x f)) f), nI f)) (pn P) (fun f hf => ?_) ?_
  · have hE := hO.2.2.2.2.1 e he f hf
    have hq := (hO.2.1 f hf).2.1
    have hq2 : 2 ^ pq P f ≤ 32 := Nat.pow_le_pow_right (n := 2) (by omega) hq
    have hv := vo_lt x f
    dsimp only [wX11_lays_99]
    rw [hM.1, if_neg (by rw [nN_le (by omega) (by omega)]; omega), alB_s, nI_s]
    cases ha : alB (fun f => (pE P e f).testBit (vo x f)) f with
    | false => rw [if_pos ((bI_0 false).mpr rfl), Bool.false_and]; rfl
    | true =>
      rw [if_neg (fun q => absurd ((bI_0 true).mp q) (by decide)), Bool.true_and, show (5 : Int32) = nI 5 from rfl, nI_mul, nN_add, zchk_t (zin_nI (by omega) (by omega)), m_valueOf hM (by omega) (by omega), Option.bind_some, nI_cl (by omega), hM.2.2.2.2.2.2.1 e he f hf, m_has (by omega) (by omega), Option.bind_some]
      cases (pE P e f).testBit (vo x f) with
      | false => rw [if_pos (show (if false = true then (1 : Int32) else 0) = 0 by decide)]; rfl
      | true => rw [if_neg (show ¬ (if true = true then (1 : Int32) else 0) = 0 by decide)]; rfl
  · dsimp only [wX11_lays_99]
    have eS : bS (eF P x) (e + 1) = bS (eF P x) e ||| (if eF P x e then 2 ^ e else 0) := by
      apply Nat.eq_of_testBit_eq
      intro i
      rw [bS_bit, Nat.testBit_or, bS_bit]
      cases hE : eF P x e with
      | true =>
        rw [if_pos rfl, Nat.testBit_two_pow]
        by_cases q : i = e
        · subst q; simp [hE]
        · by_cases q2 : i < e
          · rw [decide_eq_true (show i < e + 1 by omega), decide_eq_true q2, decide_eq_false (show ¬ e = i by omega)]; simp
          · rw [decide_eq_false (show ¬ i < e + 1 by omega), decide_eq_false q2, decide_eq_false (show ¬ e = i by omega)]; simp
      | false =>
        rw [if_neg (by decide), Nat.zero_testBit, Bool.or_false]
        by_cases q : i = e
        · subst q; simp [hE]
        · by_cases q2 : i < e
          · rw [decide_eq_true (show i < e + 1 by omega), decide_eq_true q2]
          · rw [decide_eq_false (show ¬ i < e + 1 by omega), decide_eq_false q2]
    rw [hM.1, if_pos (Int32.le_refl _), zchk_t (zin_nI hx (by omega)), nI_cl (by omega), h6, eS]
    have hh : alB (fun f => (pE P e f).testBit (vo x f)) (pn P) = eF P x e := rfl
    rw [hh]
    cases eF P x e with
    | false =>
      rw [if_pos ((bI_0 false).mpr rfl), zchk_t (zin_nI hx (by omega)), nI_s, show (0 : Int32) = nI 0 from rfl, nI_or]
      rfl
    | true =>
      rw [if_neg (fun q => absurd ((bI_0 true).mp q) (by decide)), zchk_t (zin_nI hx (by omega)), nI_s, nI_shl (by omega), nI_or]
      rfl
end Mp
