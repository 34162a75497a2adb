
/-! ===== steps: tried ===== -/
section S9
variable {S S' : zSt} {g h k : zS} {P : zPl}
theorem dgN {x : Int32} (h : x < 0) : x - x / 10 * 10 < 0 ∨ (x - x / 10 * 10 = 0 ∧ x / 10 < 0) := by
  rw [Int32.lt_iff_toInt_lt] at h
  have hx : -2147483648 ≤ x.toInt := Int32.le_toInt x
  have h0 : (0 : Int32).toInt = 0 := rfl
  have h10 : (10 : Int32).toInt = 10 := rfl
  rw [h0] at h
  have hq : x.toInt.tdiv 10 = -((-x.toInt) / 10) := by
    rw [← Int.tdiv_eq_ediv_of_nonneg (by omega), Int.neg_tdiv, Int.neg_neg]
  have e1 : (x / 10).toInt = x.toInt.tdiv 10 := by
    rw [Int32.toInt_div, h10, hq]
    exact Int.bmod_eq_of_le (by omega) (by omega)
  have e2 : (x / 10 * 10).toInt = x.toInt.tdiv 10 * 10 := by
    rw [Int32.toInt_mul, e1, h10, hq]
    exact Int.bmod_eq_of_le (by omega) (by omega)
  have e3 : (x - x / 10 * 10).toInt = x.toInt - x.toInt.tdiv 10 * 10 := by
    rw [Int32.toInt_sub, e2, hq]
    exact Int.bmod_eq_of_le (by omega) (by omega)
  by_cases c : x.toInt - x.toInt.tdiv 10 * 10 = 0
  · refine Or.inr ⟨Int32.toInt.inj (by rw [e3, c, h0]), ?_⟩
    rw [Int32.lt_iff_toInt_lt, e1, h0]
    rw [hq] at c ⊢
    omega
  · refine Or.inl ?_
    rw [Int32.lt_iff_toInt_lt, e3, h0]
    rw [hq] at c ⊢
    omega
theorem dg10 {m : Nat} (hm : m < 2147483648) : nI m - nI m / (10 : Int32) * (10 : Int32) = nI (m % 10) := by
  rw [show (nI m / (10 : Int32)) = nI (m / 10) from nI_div (b := 10) hm (by omega), show nI (m / 10) * (10 : Int32) = nI (m / 10 * 10) from nI_mul _ 10, nI_sub (by omega)]
  congr 1
  omega

theorem nle0 {n : Nat} (h : n < 2147483648) : nI n ≤ (0 : Int32) ↔ n = 0 := (nN_le (b := 0) h (by omega)).trans (by omega)
/-- the digit of the field f of n -/
def dxt (m n f : Nat) : Nat := m / 10 ^ (n - 1 - f) % 10
theorem dxt_lt (m n f : Nat) : dxt m n f < 10 := Nat.mod_lt _ (by omega)
theorem p10_s (m t : Nat) : m / 10 ^ t / 10 = m / 10 ^ (t + 1) := by rw [Nat.div_div_eq_div_mul, Nat.pow_succ]
theorem p10_lt {m : Nat} (hm : m < 2147483648) (t : Nat) : m / 10 ^ t < 2147483648 := Nat.lt_of_le_of_lt (Nat.div_le_self _ _) hm
/-- a code that the digits make -/
def oD (m n : Nat) (r : Int32) : Prop := ((m / 10 ^ n = 0 ∧ ∀ f, f < n → dxt m n f < 5) ∧ ∃ c, r = nI c ∧ c < 32768 ∧ ∀ f, f < 5 → rv c f = if f < n then 1 + dxt m n f else 0) ∨ (¬ (m / 10 ^ n = 0 ∧ ∀ f, f < n → dxt m n f < 5) ∧ r = -1)
theorem e_ofDigits {m n : Nat} (hm : m < 2147483648) (hn : n ≤ 5) : ∃ r, nX1_ofDigits (nI m) (nI n) = some r ∧ oD m n r := by
  unfold nX1_ofDigits
  rw [show nI n - 1 = nJ n from rfl]
  refine wh_post (fun s : Int32 × Int32 × Int32 => ∃ t, t ≤ n ∧ s.1 = nI (m / 10 ^ t) ∧ s.2.2 = nJ (n - t) ∧ (∀ f, n - t ≤ f → f < n → dxt m n f < 5) ∧ ∃ c, s.2.1 = nI c ∧ c < 32768 ∧ ∀ f, f < 5 → rv c f = if n - t ≤ f ∧ f < n then 1 + dxt m n f else 0) (fun s => (s.2.2 + 1).toNatClampNeg) (oD m n) ?_ _ ⟨0, Nat.zero_le _, by simp, rfl, fun f _ _ => by omega, 0, rfl, by omega, fun f hf => ?_⟩
  · intro s ⟨t, ht, a1, a2, a3, c, a4, a5, a6⟩
    unfold wX1_ofDigits_9
    have hX := p10_lt hm t
    by_cases q : t = n
    · subst q
      rw [a2, show t - t = 0 by omega, if_pos (by decide), a1]
      by_cases z : m / 10 ^ t = 0
      · rw [if_pos (by rw [z]; rfl)]
        refine ⟨_, rfl, Or.inl ⟨⟨z, fun f hf => a3 f (by omega) hf⟩, c, a4, a5, fun f hf => ?_⟩⟩
        rw [a6 f hf, show t - t = 0 by omega]
        by_cases w : f < t
        · rw [if_pos w, if_pos ⟨Nat.zero_le _, w⟩]
        · rw [if_neg w, if_neg (fun e => w e.2)]
      · rw [if_neg (fun e => z ((nN_eq0 hX).mp e))]
        exact ⟨_, rfl, Or.inr ⟨fun e => z e.1, rfl⟩⟩
    · have h1 : n - t = (n - t - 1) + 1 := by omega
      have hd : dxt m n (n - t - 1) = m / 10 ^ t % 10 := by unfold dxt; rw [show n - 1 - (n - t - 1) = t by omega]
      rw [a2, h1, nJ_s, if_neg (nI_nn (by omega)), a1, dg10 hX, ← hd]
      have hl := dxt_lt m n (n - t - 1)
      rw [if_neg (nI_nn (by omega))]
      by_cases z : dxt m n (n - t - 1) < 5
      · rw [if_pos (show nI (dxt m n (n - t - 1)) < (5 : Int32) from (nN_lt (b := 5) (by omega) (by omega)).mpr z), a4, show nI (dxt m n (n - t - 1)) = nJ (dxt m n (n - t - 1) + 1) from (nJ_s _).symm, e_withAnswer (by omega), Option.bind_some]
        refine ⟨_, rfl, ⟨t + 1, by omega, ?_, ?_, fun f h2 h3 => ?_, _, rfl, wa_lt a5 (by omega) (by omega), fun f hf => ?_⟩, ?_⟩
        · dsimp only
          rw [show nI (m / 10 ^ t) / (10 : Int32) = nI (m / 10 ^ t / 10) from nI_div (b := 10) hX (by omega), p10_s]
        · dsimp only
          rw [nJ_p, show n - t - 1 = n - (t + 1) by omega]
        · by_cases w : f = n - t - 1
          · rw [w]; exact z
          · exact a3 f (by omega) h3
        · rw [rv_wa (by omega) hf (by omega)]
          by_cases w : f = n - t - 1
          · rw [if_pos w, if_pos (by omega), w]
            omega
          · rw [if_neg w, a6 f hf]
            by_cases w2 : n - t ≤ f ∧ f < n
            · rw [if_pos w2, if_pos (by omega)]
            · rw [if_neg w2, if_neg (by omega)]
        · dsimp only
          rw [nJ_p, nJ_add, nI_s, nI_cl (by omega), nI_cl (by omega)]
          omega
      · rw [if_neg (show ¬ nI (dxt m n (n - t - 1)) < (5 : Int32) from fun e => z ((nN_lt (b := 5) (by omega) (by omega)).mp e))]
        exact ⟨_, rfl, Or.inr ⟨fun e => z (e.2 _ (by omega)), rfl⟩⟩
  · have : rv 0 f = 0 := by
      have hz : ∀ f, f < 5 → rv 0 f = 0 := by decide
      exact hz f hf
    rw [this, if_neg (by omega)]
theorem e_ofDigitsN {x : Int32} {n : Nat} (hx : x < 0) (hn : n ≤ 5) : nX1_ofDigits x (nI n) = some (-1) := by
  have key : ∃ r, nX1_ofDigits x (nI n) = some r ∧ r = -1 := by
    unfold nX1_ofDigits
    rw [show nI n - 1 = nJ n from rfl]
    refine wh_post (fun s : Int32 × Int32 × Int32 => s.1 < 0 ∧ ∃ t, t ≤ n ∧ s.2.2 = nJ (n - t) ∧ ∃ c, s.2.1 = nI c ∧ c < 32768) (fun s => (s.2.2 + 1).toNatClampNeg) (fun r => r = -1) ?_ _ ⟨hx, 0, Nat.zero_le _, rfl, 0, rfl, by omega⟩
    intro s ⟨a1, t, ht, a2, c, a4, a5⟩
    unfold wX1_ofDigits_9
    by_cases q : t = n
    · subst q
      rw [a2, show t - t = 0 by omega, if_pos (by decide), if_neg (fun e => by rw [e] at a1; exact absurd a1 (by decide))]
      exact ⟨_, rfl, rfl⟩
    · have h1 : n - t = (n - t - 1) + 1 := by omega
      rw [a2, h1, nJ_s, if_neg (nI_nn (by omega))]
      rcases dgN a1 with d | ⟨d, e⟩
      · rw [if_pos d]
        exact ⟨_, rfl, rfl⟩
      · rw [d, if_neg (by decide), if_pos (by decide), a4, show (0 : Int32) = nJ 1 by decide, e_withAnswer (by omega), Option.bind_some]
        refine ⟨_, rfl, ⟨?_, t + 1, by omega, ?_, _, rfl, wa_lt a5 (by omega) (by omega)⟩, ?_⟩
        · exact e
        · dsimp only
          rw [nJ_p, show n - t - 1 = n - (t + 1) by omega]
        · dsimp only
          rw [nJ_p, nJ_add, nI_s, nI_cl (by omega), nI_cl (by omega)]
          omega
  obtain ⟨r, w, e⟩ := key
  rw [w, e]
theorem e_holdsForm (hO : pOK P) (hP : cP P g) {c : Nat} (hc : c < 32768) (hr : ∀ f, f < pn P → rv c f ≠ 0) : nX6_holdsForm (nI c) g = some (if pn P ≠ 0 ∧ ∀ f, f < pn P → rv c f ≤ pq P f then 1 else 0) := by
  have h5 := hO.1
  have key : ∃ r, nX6_holdsForm (nI c) g = some r ∧ r = (if pn P ≠ 0 ∧ ∀ f, f < pn P → rv c f ≤ pq P f then 1 else 0) := by
    unfold nX6_holdsForm
    refine wh_post (fun s : Int32 => ∃ i, i ≤ pn P ∧ s = nI i ∧ ∀ f, f < i → rv c f ≤ pq P f) (fun s => 5 - s.toNatClampNeg) (fun r => r = _) ?_ _ ⟨0, Nat.zero_le _, rfl, fun f hf => by omega⟩
    intro s ⟨i, hi, a1, a2⟩
    unfold wX6_holdsForm_2
    rw [a1, hP.1]
    by_cases q : pn P ≤ i
    · rw [if_pos ((nN_le (by omega) (by omega)).mpr q)]
      by_cases z : pn P = 0
      · rw [if_pos ((nle0 (n := pn P) (by omega)).mpr z), if_neg (fun e => e.1 z)]
        exact ⟨_, rfl, rfl⟩
      · rw [if_neg (fun e => z ((nle0 (n := pn P) (by omega)).mp e)), if_pos ⟨z, fun f hf => a2 f (by omega)⟩]
        exact ⟨_, rfl, rfl⟩
    · have v := rv_lt c i
      have hne := hr i (by omega)
      have hq := hO.2.1 i (by omega)
      rw [if_neg (fun e => q ((nN_le (by omega) (by omega)).mp e)), e_answerAt hc (by omega), Option.bind_some, nJ_pp (by omega), if_neg (nI_nn (by omega)), zchk_t (zin_nI (by omega) (by omega)), nI_cl (by omega), hP.2.1 i (by omega)]
      by_cases w : rv c i ≤ pq P i
      · rw [if_pos ((nN_lt (by omega) (by omega)).mpr (by omega))]
        refine ⟨_, rfl, ⟨i + 1, by omega, nI_s i, fun f hf => ?_⟩, ?_⟩
        · by_cases e : f = i
          · rw [e]; exact w
          · exact a2 f (by omega)
        · rw [nI_s, nI_cl (by omega)]
          omega
      · rw [if_neg (fun e => w (by rw [nN_lt (by omega) (by omega)] at e; omega)), if_neg (fun e => w (e.2 i (by omega)))]
        exact ⟨_, rfl, rfl⟩
  obtain ⟨r, w, e⟩ := key
  rw [w, e]
theorem fno_upd {b : Nat → Nat} {f0 v : Nat} (h0 : b f0 = 0) : ∀ n, f0 < n → fno (upA b f0 v) n = fno b n + 5 ^ (4 - f0) * v
  | 0, h => by omega
  | n + 1, h => by
    rw [fno_s, fno_s]
    by_cases q : f0 = n
    · subst q
      rw [show fno (upA b f0 v) f0 = fno b f0 from fno_congr f0 (fun f hf => if_neg (by omega)), h0, show upA b f0 v f0 = v from if_pos rfl]
      omega
    · rw [fno_upd h0 n (by omega), show upA b f0 v n = b n from if_neg (fun e => q e.symm)]
      omega
theorem fno_le9 {b : Nat → Nat} (hb : ∀ f, f < 5 → b f < 10) {n : Nat} (hn : n ≤ 5) : fno b n < 10000 := by
  have h : fno (fun f => if f < n then b f else 0) 5 = fno b n := by
    rw [show 5 = n + (5 - n) by omega]
    exact fno_ext b n (5 - n)
  rw [← h, fno_5]
  have d : ∀ f, f < 5 → (if f < n then b f else 0) < 10 := fun f hf => by
    by_cases q : f < n
    · rw [if_pos q]; exact hb f hf
    · rw [if_neg q]; omega
  have := d 0 (by omega); have := d 1 (by omega); have := d 2 (by omega); have := d 3 (by omega); have := d 4 (by omega)
  omega
/-- the digits name a form -/
def isD (P : zPl) (m : Nat) : Prop := pn P ≠ 0 ∧ m / 10 ^ pn P = 0 ∧ ∀ f, f < pn P → dxt m (pn P) f < pq P f
theorem m_tried (hO : pOK P) (hM : mP P g) (hF : mF P g) {m : Nat} (hm : m < 2147483648) : ∃ an, nX11_tried (nI m) g = some (an, zi g 42 0 (@ite Int32 (isD P m) (Classical.propDecidable _) 0 1)) ∧ (isD P m → an = nI (fs P (dxt m (pn P)))) := by
  have h5 := hO.1
  have hst : nX11_tried (nI m) g = wh (wX11_tried_30 g) ((0 : Int32), nI m, (if pn P ≠ 0 then 1 else 0), nJ (pn P)) := by
    unfold nX11_tried
    rw [hM.1]
    by_cases z : pn P = 0
    · rw [if_pos ((nle0 (n := pn P) (by omega)).mpr z), if_neg (fun e => e z)]
      rfl
    · rw [if_neg (fun e => z ((nle0 (n := pn P) (by omega)).mp e)), if_neg (nI_nn hm), if_pos z]
      rfl
  have key : ∃ r : Int32 × zS, wh (wX11_tried_30 g) ((0 : Int32), nI m, (if pn P ≠ 0 then 1 else 0), nJ (pn P)) = some r ∧ (r.2 = zi g 42 0 (@ite Int32 (isD P m) (Classical.propDecidable _) 0 1) ∧ (isD P m → r.1 = nI (fs P (dxt m (pn P))))) := by
    refine wh_post (fun s : Int32 × Int32 × Int32 × Int32 => ∃ t, t ≤ pn P ∧ s.1 = nI (fno (fun f => if pn P - t ≤ f then dxt m (pn P) f else 0) (pn P)) ∧ s.2.1 = nI (m / 10 ^ t) ∧ s.2.2.1 = @ite Int32 (pn P ≠ 0 ∧ ∀ f, pn P - t ≤ f → f < pn P → dxt m (pn P) f < pq P f) (Classical.propDecidable _) 1 0 ∧ s.2.2.2 = nJ (pn P - t)) (fun s => (s.2.2.2 + 1).toNatClampNeg) (fun (r : Int32 × zS) => r.2 = zi g 42 0 (@ite Int32 (isD P m) (Classical.propDecidable _) 0 1) ∧ (isD P m → r.1 = nI (fs P (dxt m (pn P))))) ?_ _ ⟨0, Nat.zero_le _, ?_, by simp, ?_, rfl⟩
    · intro s ⟨t, ht, a1, a2, a3, a4⟩
      have hX := p10_lt hm t
      by_cases q : t = pn P
      · unfold wX11_tried_30
        have q2 : m / 10 ^ t = m / 10 ^ pn P := by rw [q]
        rw [a4, show pn P - t = 0 by omega, if_pos (by decide), a3, a2, a1]
        have hfn : fno (fun f => if pn P - t ≤ f then dxt m (pn P) f else 0) (pn P) = fno (dxt m (pn P)) (pn P) := fno_congr _ (fun f _ => if_pos (by omega))
        by_cases z : pn P ≠ 0 ∧ ∀ f, pn P - t ≤ f → f < pn P → dxt m (pn P) f < pq P f
        · rw [if_pos z, if_neg n01]
          by_cases w : m / 10 ^ t = 0
          · have hD : isD P m := ⟨z.1, by rw [← q2]; exact w, fun f hf => z.2 f (by omega) hf⟩
            have hfm := fno_form hO hD.2.2
            rw [if_pos (by rw [w]; rfl), if_pos hD]
            unfold jX11_tried_102
            rw [zi_at, if_pos (Int32.le_refl 0), hfn, zchk_t (zin_nI hfm.1 (by omega)), nI_cl (by omega), zi_cell _ _ (by decide), (hF _ hfm.1).2, hfm.2.2]
            exact ⟨_, rfl, rfl, fun _ => rfl⟩
          · have hD : ¬ isD P m := fun e => w (by rw [q2]; exact e.2.1)
            rw [if_neg (fun e => w ((nN_eq0 hX).mp e)), if_neg hD]
            unfold jX11_tried_101 jX11_tried_102
            rw [zi_at, if_neg le1]
            exact ⟨_, rfl, rfl, fun e => (hD e).elim⟩
        · have hD : ¬ isD P m := fun e => z ⟨e.1, fun f _ hf => e.2.2 f hf⟩
          rw [if_neg z, if_pos rfl, if_neg hD]
          unfold jX11_tried_101 jX11_tried_102
          rw [zi_at, if_neg le1]
          exact ⟨_, rfl, rfl, fun e => (hD e).elim⟩
      · have h1 : pn P - t = (pn P - t - 1) + 1 := by omega
        have hd : dxt m (pn P) (pn P - t - 1) = m / 10 ^ t % 10 := by unfold dxt; rw [show pn P - 1 - (pn P - t - 1) = t by omega]
        have hl := dxt_lt m (pn P) (pn P - t - 1)
        have hp5 := p5_le (f := pn P - t - 1)
        have hq5 := hO.2.1 (pn P - t - 1) (by omega)
        have fin : ∀ b : Int32, b = (@ite Int32 (pn P ≠ 0 ∧ ∀ f, pn P - (t + 1) ≤ f → f < pn P → dxt m (pn P) f < pq P f) (Classical.propDecidable _) 1 0) → ∃ o : (Int32 × Int32 × Int32 × Int32) ⊕ (Int32 × zS), jX11_tried_59 s.1 s.2.1 (nI (pn P - t - 1)) b g = some o ∧ (match o with | .inl s' => (∃ t, t ≤ pn P ∧ s'.1 = nI (fno (fun f => if pn P - t ≤ f then dxt m (pn P) f else 0) (pn P)) ∧ s'.2.1 = nI (m / 10 ^ t) ∧ s'.2.2.1 = @ite Int32 (pn P ≠ 0 ∧ ∀ f, pn P - t ≤ f → f < pn P → dxt m (pn P) f < pq P f) (Classical.propDecidable _) 1 0 ∧ s'.2.2.2 = nJ (pn P - t)) ∧ (s'.2.2.2 + 1).toNatClampNeg < (s.2.2.2 + 1).toNatClampNeg | .inr r => r.2 = zi g 42 0 (@ite Int32 (isD P m) (Classical.propDecidable _) 0 1) ∧ (isD P m → r.1 = nI (fs P (dxt m (pn P))))) := fun b hb => by
          unfold jX11_tried_59
          rw [zchk_t (zin_nI (by omega) (by omega)), nI_cl (by omega), hM.2.2.2.2.2.2.2 _ (by omega), a2, dg10 hX, ← hd, a1, nI_mul, nN_add]
          refine ⟨_, rfl, ⟨t + 1, by omega, ?_, ?_, hb, ?_⟩, ?_⟩
          · dsimp only
            congr 1
            rw [← fno_upd (b := fun f => if pn P - t ≤ f then dxt m (pn P) f else 0) (v := dxt m (pn P) (pn P - t - 1)) (if_neg (by omega)) (pn P) (by omega)]
            refine fno_congr _ (fun f hf => ?_)
            unfold upA
            by_cases w : f = pn P - t - 1
            · rw [if_pos w, if_pos (by omega), w]
            · rw [if_neg w]
              dsimp only
              by_cases w2 : pn P - t ≤ f
              · rw [if_pos w2, if_pos (by omega)]
              · rw [if_neg w2, if_neg (by omega)]
          · dsimp only
            rw [show nI (m / 10 ^ t) / (10 : Int32) = nI (m / 10 ^ t / 10) from nI_div (b := 10) hX (by omega), p10_s]
          · dsimp only
            rw [nJ_p, show pn P - t - 1 = pn P - (t + 1) by omega]
          · dsimp only
            rw [a4, nJ_p, nJ_add, nJ_add, nI_cl (by omega), nI_cl (by omega)]
            omega
        have hs : ∃ b : Int32, b = (@ite Int32 (pn P ≠ 0 ∧ ∀ f, pn P - (t + 1) ≤ f → f < pn P → dxt m (pn P) f < pq P f) (Classical.propDecidable _) 1 0) ∧ wX11_tried_30 g s = jX11_tried_59 s.1 s.2.1 (nI (pn P - t - 1)) b g := by
          by_cases z : pn P ≠ 0 ∧ ∀ f, pn P - t ≤ f → f < pn P → dxt m (pn P) f < pq P f
          · by_cases w : dxt m (pn P) (pn P - t - 1) < pq P (pn P - t - 1)
            · have z2 : pn P ≠ 0 ∧ ∀ f, pn P - (t + 1) ≤ f → f < pn P → dxt m (pn P) f < pq P f := by
                refine ⟨z.1, fun f h2 h3 => ?_⟩
                by_cases e : f = pn P - t - 1
                · rw [e]; exact w
                · exact z.2 f (by omega) h3
              refine ⟨1, (if_pos z2).symm, ?_⟩
              · unfold wX11_tried_30
                rw [a3, if_pos z, a4, h1, nJ_s, if_neg (nI_nn (by omega)), if_neg n01, zchk_t (zin_nI (by omega) (by omega)), nI_cl (by omega), hM.2.2.2.1 _ (by omega), a2, dg10 hX, ← hd, if_neg (fun e => by rw [nN_le (by omega) (by omega)] at e; omega)]
                rfl
            · refine ⟨0, (if_neg (fun e => w (e.2 _ (by omega) (by omega)))).symm, ?_⟩
              unfold wX11_tried_30
              rw [a3, if_pos z, a4, h1, nJ_s, if_neg (nI_nn (by omega)), if_neg n01, zchk_t (zin_nI (by omega) (by omega)), nI_cl (by omega), hM.2.2.2.1 _ (by omega), a2, dg10 hX, ← hd, if_pos ((nN_le (by omega) (by omega)).mpr (by omega))]
              rfl
          · refine ⟨0, (if_neg (fun e => z ⟨e.1, fun f h2 h3 => e.2 f (by omega) h3⟩)).symm, ?_⟩
            unfold wX11_tried_30
            rw [a3, if_neg z, a4, h1, nJ_s, if_neg (nI_nn (by omega)), if_pos rfl]
            rfl
        obtain ⟨b, hb, hs⟩ := hs
        obtain ⟨o, w, ho⟩ := fin b hb
        cases o with
        | inl s' => exact ⟨.inl s', by rw [hs]; exact w, ho⟩
        | inr r => exact ⟨.inr r, by rw [hs]; exact w, ho⟩
    · show (0 : Int32) = _
      rw [show fno (fun f => if pn P - 0 ≤ f then dxt m (pn P) f else 0) (pn P) = 0 from ?_]
      · rfl
      · rw [fno_congr (b := fun _ => 0) (pn P) (fun f hf => if_neg (by omega))]
        have : ∀ n, fno (fun _ => 0) n = 0 := by
          intro n
          induction n with
          | zero => rfl
          | succ n ih => rw [fno_s, ih]; rfl
        exact this _
    · show (if pn P ≠ 0 then (1 : Int32) else 0) = _
      by_cases z : pn P ≠ 0
      · rw [if_pos z, if_pos ⟨z, fun f h2 h3 => by omega⟩]
      · rw [if_neg z, if_neg (fun e => z e.1)]
  obtain ⟨⟨r1, r2⟩, w, e1, e2⟩ := key
  refine ⟨r1, ?_, e2⟩
  rw [hst, w]
  exact congrArg some (Prod.ext rfl e1)
theorem m_triedN (hO : pOK P) (hM : mP P g) {x : Int32} (hx : x < 0) : ∃ an, nX11_tried x g = some (an, zi g 42 0 1) := by
  have h5 := hO.1
  have hst : nX11_tried x g = wh (wX11_tried_30 g) ((0 : Int32), x, 0, nJ (pn P)) := by
    unfold nX11_tried
    rw [hM.1]
    by_cases z : nI (pn P) ≤ 0
    · rw [if_pos z]; rfl
    · rw [if_neg z, if_pos hx]; rfl
  have key : ∃ r : Int32 × zS, wh (wX11_tried_30 g) ((0 : Int32), x, 0, nJ (pn P)) = some r ∧ r.2 = zi g 42 0 1 := by
    refine wh_post (fun s : Int32 × Int32 × Int32 × Int32 => s.2.2.1 = 0 ∧ ∃ t, t ≤ pn P ∧ s.2.2.2 = nJ t) (fun s => (s.2.2.2 + 1).toNatClampNeg) (fun (r : Int32 × zS) => r.2 = zi g 42 0 1) ?_ _ ⟨rfl, pn P, Nat.le_refl _, rfl⟩
    intro s ⟨a1, t, ht, a2⟩
    unfold wX11_tried_30
    by_cases q : t = 0
    · rw [a2, q, if_pos (by decide), a1, if_pos rfl]
      unfold jX11_tried_101 jX11_tried_102
      rw [zi_at, if_neg le1]
      exact ⟨_, rfl, rfl⟩
    · rw [a2, nJ_pp (by omega), if_neg (nI_nn (by omega)), a1, if_pos rfl]
      unfold jX11_tried_58 jX11_tried_59
      rw [zchk_t (zin_nI (by omega) (by omega))]
      refine ⟨_, rfl, ⟨rfl, t - 1, by omega, nJ_p _⟩, ?_⟩
      dsimp only
      rw [nJ_p, nJ_add, nI_s, nI_cl (by omega), nI_cl (by omega)]
      omega
  obtain ⟨⟨r1, r2⟩, w, e1⟩ := key
  exact ⟨r1, by rw [hst, w]; exact congrArg some (Prod.ext rfl e1)⟩
theorem e_tried (hO : pOK P) (hP : cP P g) (hE : cE P g) {m : Nat} (hm : m < 2147483648) : nX10_tried (nI m) g = some (@ite (Int32 ⊕ String) (isD P m) (Classical.propDecidable _) (.inl (nI (fs P (dxt m (pn P))))) (.inr "java/lang/IllegalArgumentException")) := by
  have h5 := hO.1
  obtain ⟨r, w, hr⟩ := e_ofDigits (n := pn P) hm h5
  unfold nX10_tried
  rw [hP.1, w, Option.bind_some]
  rcases hr with ⟨⟨q1, q2⟩, c, e, hc, hv⟩ | ⟨q, e⟩
  · have hvn : ∀ f, f < pn P → rv c f = 1 + dxt m (pn P) f := fun f hf => by rw [hv f (by omega), if_pos hf]
    rw [e, if_neg (fun q => by rw [nI_m1, nN_eqm (by omega)] at q; exact q), e_holdsForm hO hP hc (fun f hf => by rw [hvn f hf]; omega), Option.bind_some]
    by_cases z : pn P ≠ 0 ∧ ∀ f, f < pn P → rv c f ≤ pq P f
    · have hD : isD P m := ⟨z.1, q1, fun f hf => by have := z.2 f hf; rw [hvn f hf] at this; omega⟩
      have hR : rOK P c := ⟨hc, z.2, fun f h1 h2 => by rw [hv f h2, if_neg (by omega)]⟩
      rw [if_pos z, if_neg n01, if_pos hD, e_editsFailed hO hP hE hR, Option.bind_some, lft_full (fun f hf => by rw [hvn f hf]; omega)]
      rw [fs_congr P (b := dxt m (pn P)) (fun f hf => by rw [hvn f hf]; omega)]
    · have hD : ¬ isD P m := fun e => z ⟨e.1, fun f hf => by rw [hvn f hf]; have := e.2.2 f hf; omega⟩
      rw [if_neg z, if_pos rfl, if_neg hD]
      rfl
  · have hD : ¬ isD P m := fun e => q ⟨e.2.1, fun f hf => by have := e.2.2 f hf; have := (hO.2.1 f hf).2; omega⟩
    rw [e, if_pos rfl, if_neg hD]
    rfl
theorem s_13 (a : Nat → Int32) (hv : Iv g) : ∃ r, nS_13 a g = some r ∧ Iv r := by
  obtain ⟨S, hc, hm⟩ := hv
  obtain ⟨hO, ⟨hP, hE, hC0, hL, h6, hG⟩, ⟨hR, hH, hz⟩, hT, hWr, hFl, hB⟩ := id hc
  unfold nS_13
  by_cases c : a 1 < 0
  · refine st_q (S := S) (L := nL_tried (a 1)) (M := nX11_tried (a 1)) (cd := 1) (an := 0) hc hm ?_ ?_
    · refine cQ_r (X := nX10_tried (a 1)) (e := "java/lang/IllegalArgumentException") ?_ (by rw [if_pos rfl]) n01
      unfold nX10_tried
      rw [hP.1, e_ofDigitsN c hO.1, Option.bind_some, if_pos rfl]
      rfl
    · intro h hm2
      obtain ⟨⟨hM, hF, _, _⟩, _⟩ := id hm2
      obtain ⟨an, w⟩ := m_triedN hO hM c
      exact ⟨_, _, w, sc_42 _ _, zi_at _ _ _ _, fun q => absurd q n01⟩
  · obtain ⟨m, hm31, e1⟩ : ∃ m, m < 2147483648 ∧ a 1 = nI m := by
      rcases ix2 (a 1) (n := 2147483647) (by omega) with ⟨i, hi, e⟩ | hno
      · exact ⟨i, by omega, e⟩
      · refine ⟨2147483647, by omega, ?_⟩
        rcases hno with q | q
        · exact absurd q c
        · exact Int32.le_antisymm (Int32.le_maxValue _) q.2
    rw [e1]
    by_cases q : isD S.1 m
    · refine st_q (S := S) (L := nL_tried (nI m)) (M := nX11_tried (nI m)) (cd := 0) (an := nI (fs S.1 (dxt m (pn S.1)))) hc hm ?_ ?_
      · refine cQ_l (X := nX10_tried (nI m)) ?_
        rw [e_tried hO hP hE hm31, if_pos q]
      · intro h hm2
        obtain ⟨⟨hM, hF, _, _⟩, _⟩ := id hm2
        obtain ⟨an, w, e⟩ := m_tried hO hM hF hm31
        rw [if_pos q] at w
        exact ⟨_, _, w, sc_42 _ _, zi_at _ _ _ _, fun _ => e q⟩
    · refine st_q (S := S) (L := nL_tried (nI m)) (M := nX11_tried (nI m)) (cd := 1) (an := 0) hc hm ?_ ?_
      · refine cQ_r (X := nX10_tried (nI m)) (e := "java/lang/IllegalArgumentException") ?_ (by rw [if_pos rfl]) n01
        rw [e_tried hO hP hE hm31, if_neg q]
      · intro h hm2
        obtain ⟨⟨hM, hF, _, _⟩, _⟩ := id hm2
        obtain ⟨an, w, e⟩ := m_tried hO hM hF hm31
        rw [if_neg q] at w
        exact ⟨_, _, w, sc_42 _ _, zi_at _ _ _ _, fun q => absurd q n01⟩
end S9
