
/-! ===== steps: within ===== -/
section S21
variable {S S' : zSt} {g h k : zS} {P : zPl} {N : Nat} {r : Nat → Nat}
theorem sub_not31 {a b : Nat} (ha : a < 2147483648) : nI a &&& (nI b ^^^ (-1 : Int32)) = 0 ↔ ∀ v, a.testBit v = true → b.testBit v = true := by
  rw [nI_m1, nI_xor, nI_and, nN_eq0 (Nat.lt_of_le_of_lt Nat.and_le_left ha)]
  have hv : ∀ v, a.testBit v = true → v < 31 := fun v hv => Decidable.byContradiction fun q => by
    rw [Nat.testBit_lt_two_pow (Nat.lt_of_lt_of_le ha (show 2 ^ 31 ≤ 2 ^ v from Nat.pow_le_pow_right (by omega) (by omega)))] at hv
    cases hv
  have h1 : ∀ v, v < 31 → (4294967295 : Nat).testBit v = true := by decide
  constructor
  · intro h v q
    have e := congrArg (fun z => Nat.testBit z v) h
    rw [Nat.testBit_and, Nat.testBit_xor, q, h1 v (hv v q), Nat.zero_testBit, Bool.true_and] at e
    cases hb : b.testBit v with
    | true => rfl
    | false => rw [hb] at e; cases e
  · intro h
    apply Nat.eq_of_testBit_eq
    intro v
    rw [Nat.testBit_and, Nat.testBit_xor, Nat.zero_testBit]
    cases q : a.testBit v with
    | false => rfl
    | true => rw [h v q, h1 v (hv v q)]; rfl
/-- the form of a full row as the class's bits -/
def fmB (P : zPl) (c : Nat) : Nat := enC (fun f => 2 ^ (rv c f - 1)) (pn P)
theorem fm_lt (hO : pOK P) {c : Nat} (hc : rOK P c) : ∀ f, f < pn P → 2 ^ (rv c f - 1) < 32 := fun f hf => by
  have h1 := hc.2.1 f hf
  have h2 := (hO.2.1 f hf).2.1
  have : 2 ^ (rv c f - 1) ≤ 2 ^ 4 := Nat.pow_le_pow_right (by omega) (by omega)
  omega
theorem e_formOf (hO : pOK P) (hP : cP P g) {c : Nat} (hc : rOK P c) (hf : ∀ f, f < pn P → rv c f ≠ 0) : nX0_formOf (nI c) g = some (nI (fmB P c)) := by
  have h5 := hO.1
  unfold nX0_formOf
  refine wh_seq (fun f => (nI (enC (fun f => 2 ^ (rv c f - 1)) f), nI f)) (pn P) (fun f hf2 => ?_) ?_
  · have v := hf f hf2
    have h1 := hc.2.1 f hf2
    have h2 := (hO.2.1 f hf2).2.1
    dsimp only [wX0_formOf_4]
    rw [hP.1, if_neg (fun q => by rw [nN_le (by omega) (by omega)] at q; omega), e_answerAt hc.1 (by omega), Option.bind_some, nJ_pp (by omega)]
    unfold nX0_bitOf
    rw [show (5 : Int32) * nI f = nI (5 * f) from nI_mul 5 f, nN_add, nI_shl (by omega), Option.bind_some, nI_or, nI_s, enC_s, Nat.shiftLeft_eq, ← Nat.pow_add, Nat.add_comm (rv c f - 1)]
  · dsimp only [wX0_formOf_4]
    rw [hP.1, if_pos (Int32.le_refl _)]
    rfl
/-- the box holds the form -/
noncomputable def hlB (P : zPl) (c i : Nat) : Bool := dB (∀ f, f < pn P → (bk (bX P i) f).testBit (rv c f - 1) = true)
theorem fm_in (hO : pOK P) {c i : Nat} (hc : rOK P c) : (∀ v, (fmB P c).testBit v = true → (enC (bk (bX P i)) (pn P)).testBit v = true) ↔ hlB P c i = true := by
  have hb := fun f (_ : f < pn P) => bk_lt (bX P i) f
  unfold hlB
  rw [dB_t]
  constructor
  · intro h f hf
    have h1 := hc.2.1 f hf
    have h2 := (hO.2.1 f hf).2.1
    have := h (5 * f + (rv c f - 1)) (by
      unfold fmB
      rw [enC_bit _ (fm_lt hO hc) f _ (by omega), decide_eq_true hf, Nat.testBit_two_pow_self]
      rfl)
    rw [enC_bit _ hb f _ (by omega), Bool.and_eq_true] at this
    exact this.2
  · intro h v q
    have e : v = 5 * (v / 5) + v % 5 := by omega
    rw [e] at q ⊢
    unfold fmB at q
    rw [enC_bit _ (fm_lt hO hc) _ _ (Nat.mod_lt _ (by omega)), Bool.and_eq_true, decide_eq_true_eq, Nat.testBit_two_pow, decide_eq_true_eq] at q
    rw [enC_bit _ hb _ _ (Nat.mod_lt _ (by omega)), decide_eq_true q.1, ← q.2]
    exact h _ q.1
theorem fmB_lt (hO : pOK P) {c : Nat} (hc : rOK P c) : fmB P c < 2147483648 := by
  have h5 := hO.1
  have h1 := enC_lt (B := fun f => 2 ^ (rv c f - 1)) (pn P) (fm_lt hO hc)
  have h2 : 2 ^ (5 * pn P) ≤ 2 ^ 25 := Nat.pow_le_pow_right (by omega) (by omega)
  unfold fmB
  omega
theorem lF_at (hO : pOK P) (hF : lF P 33554432 g) {i : Nat} (hi : i < nB P) : g.1 27 i = nI (enC (bk (bX P i)) (pn P)) ∧ zin (nI i) g.2.2.2 = true := by
  obtain ⟨f1, f2, f3, f4, f6⟩ := hF
  obtain ⟨b1, b2, b3⟩ := bX_spec hi
  have e := f6 _ b1 b2
  rw [b3] at e
  have f2' : nB P ≤ g.2.2.2 := f2
  exact ⟨e, zin_nI (by omega) (by omega)⟩
/-- the box of a number among those that hold a form -/
noncomputable def wtP (P : zPl) (c t i : Nat) : Bool := hlB P c i && cnt (hlB P c) i == t
noncomputable def wtA (P : zPl) (c t : Nat) : Int32 := if fstB (wtP P c t) (nB P) < nB P then nI (fstB (wtP P c t) (nB P)) else -1
theorem wh_fsB {A R : Type} {step : A → Option (A ⊕ R)} (p : Nat → Bool) (n : Nat) (s : Nat → A) (out : R) (yes : Nat → R) (h1 : ∀ i, i < n → p i = false → step (s i) = some (.inl (s (i + 1)))) (h2 : ∀ i, i < n → p i = true → step (s i) = some (.inr (yes i))) (h3 : step (s n) = some (.inr out)) : wh step (s 0) = some (if fstB p n < n then yes (fstB p n) else out) := by
  obtain ⟨f1, f2, f3⟩ := fstB_spec p n
  by_cases c : fstB p n < n
  · rw [if_pos c]
    exact wh_seq s (fstB p n) (fun i hi => h1 i (by omega) (f2 i hi)) (h2 _ c (f3 c))
  · rw [if_neg c]
    have e : fstB p n = n := by omega
    rw [e] at f2
    exact wh_seq s n (fun i hi => h1 i hi (f2 i hi)) h3
theorem hl_le (P : zPl) (c i : Nat) : cnt (hlB P c) i ≤ i := cnt_le _ _
theorem hl_s (P : zPl) (c i : Nat) : cnt (hlB P c) (i + 1) = if hlB P c i then cnt (hlB P c) i + 1 else cnt (hlB P c) i := cnt_s _ _
/-- the class: a box that holds the form -/
theorem e_holding (hO : pOK P) (hP : cP P g) {c : Nat} (hc : rOK P c) (hf : ∀ f, f < pn P → rv c f ≠ 0) {x : Int32} (h1 : nX0_size g = some (nI (nB P), h)) (h2 : g.2.2.2 ≤ h.2.2.2) (h3 : nX0_size h = some (nI (nB P), h)) (hF : lF P 33554432 h) : nX0_holding (nI c) x g = some ((if x < 0 then -1 else wtA P c x.toNatClampNeg), h) := by
  have hb : nB P ≤ 923521 := nB_le hO
  unfold nX0_holding
  rw [e_formOf hO hP hc hf, Option.bind_some]
  have st : ∀ (s : zS) (n : Int32) (i : Nat), i ≤ 923521 → nX0_size s = some (nI (nB P), h) → s.2.2.2 ≤ h.2.2.2 → wX0_holding_12 x (nI (fmB P c)) (n, nI i, s) = if nB P ≤ i then some (.inr (-1, h)) else if hlB P c i = true then (if n = x then some (.inr (nI i, h)) else some (.inl (n + 1, nI (i + 1), h))) else some (.inl (n, nI (i + 1), h)) := fun s n i hi w1 w2 => by
    dsimp only [wX0_holding_12]
    rw [w1, Option.bind_some, zchk_t (decide_eq_true w2)]
    by_cases q : nB P ≤ i
    · rw [if_pos ((nN_le (by omega) (by omega)).mpr q), if_pos q]
      rfl
    · obtain ⟨l1, l2⟩ := lF_at hO hF (i := i) (by omega)
      rw [if_neg (fun e => q ((nN_le (by omega) (by omega)).mp e)), if_neg q, zchk_t l2, nI_cl (by omega), l1]
      by_cases q2 : hlB P c i = true
      · rw [if_pos ((sub_not31 (fmB_lt hO hc)).mpr ((fm_in hO hc).mpr q2)), if_pos q2]
        by_cases q3 : n = x
        · rw [if_pos q3, if_pos q3]; rfl
        · rw [if_neg q3, if_neg q3, nI_s]
      · rw [if_neg (fun e => q2 ((fm_in hO hc).mp ((sub_not31 (fmB_lt hO hc)).mp e))), if_neg q2, nI_s]
  have szs : ∀ i, nX0_size (if i = 0 then g else h) = some (nI (nB P), h) ∧ (if i = 0 then g else h).2.2.2 ≤ h.2.2.2 := fun i => by
    by_cases q : i = 0
    · rw [if_pos q]; exact ⟨h1, h2⟩
    · rw [if_neg q]; exact ⟨h3, Nat.le_refl _⟩
  have nx : ∀ i : Nat, (if i + 1 = 0 then g else h) = h := fun i => if_neg (by omega)
  by_cases cx : x < 0
  · rw [if_pos cx]
    refine wh_seq (fun i => (nI (cnt (hlB P c) i), nI i, if i = 0 then g else h)) (nB P) (fun i hi => ?_) ?_
    · have hle := hl_le P c i
      obtain ⟨w1, w2⟩ := szs i
      rw [st _ _ i (by omega) w1 w2, if_neg (by omega), hl_s, nx]
      by_cases q2 : hlB P c i = true
      · rw [if_pos q2, if_pos q2, if_neg (fun e => by rw [← e] at cx; exact nI_nn (by omega) cx), nI_s]
      · rw [if_neg q2, if_neg q2]
    · obtain ⟨w1, w2⟩ := szs (nB P)
      rw [st _ _ (nB P) hb w1 w2, if_pos (Nat.le_refl _)]
  · rw [if_neg cx]
    obtain ⟨t, ht, ex⟩ : ∃ t, t < 2147483648 ∧ x = nI t := by
      rcases ix2 x (n := 2147483647) (by omega) with ⟨i, hi, e⟩ | hno
      · exact ⟨i, by omega, e⟩
      · refine ⟨2147483647, by omega, ?_⟩
        rcases hno with q | q
        · exact absurd q cx
        · exact Int32.le_antisymm (Int32.le_maxValue _) q.2
    rw [ex, nI_cl ht]
    have key := wh_fsB (step := wX0_holding_12 x (nI (fmB P c))) (wtP P c t) (nB P) (fun i => (nI (cnt (hlB P c) i), nI i, if i = 0 then g else h)) (-1, h) (fun i => (nI i, h)) (fun i hi hp => ?_) (fun i hi hp => ?_) ?_
    · rw [ex] at key
      rw [show ((0 : Int32), (0 : Int32), g) = (nI (cnt (hlB P c) 0), nI 0, if 0 = 0 then g else h) from rfl, key]
      unfold wtA
      by_cases q : fstB (wtP P c t) (nB P) < nB P
      · rw [if_pos q, if_pos q]
      · rw [if_neg q, if_neg q]
    · have hle := hl_le P c i
      obtain ⟨w1, w2⟩ := szs i
      rw [st _ _ i (by omega) w1 w2, if_neg (by omega), hl_s, nx]
      by_cases q2 : hlB P c i = true
      · have q3 : cnt (hlB P c) i ≠ t := fun e => by
          unfold wtP at hp
          rw [q2, e, beq_self_eq_true] at hp
          cases hp
        rw [if_pos q2, if_pos q2, ex, if_neg (fun e => q3 ((nN_eq (by omega) ht).mp e)), nI_s]
      · rw [if_neg q2, if_neg q2]
    · have hle := hl_le P c i
      obtain ⟨w1, w2⟩ := szs i
      unfold wtP at hp
      rw [Bool.and_eq_true, beq_iff_eq] at hp
      rw [st _ _ i (by omega) w1 w2, if_neg (by omega), if_pos hp.1, if_pos (by rw [ex, hp.2])]
    · obtain ⟨w1, w2⟩ := szs (nB P)
      rw [st _ _ (nB P) hb w1 w2, if_pos (Nat.le_refl _)]
/-- the reference: is the form in the box -/
theorem m_isInBox (hBD : BD P) (hO : pOK P) (hM : mP P g) (hL : mL P 33554432 g) {x i : Nat} (hx : x < 3125) (hi : i < nB P) : nX11_isInBox (nI x) (nI i) g = some (if dB (∀ f, f < 5 → (bk (bX P i) f).testBit (vo x f) = true) then 1 else 0) := by
  have hb : nB P ≤ 30000 := hBD 33554432 (Nat.le_refl _)
  have key : ∃ rr, nX11_isInBox (nI x) (nI i) g = some rr ∧ rr = (if dB (∀ f, f < 5 → (bk (bX P i) f).testBit (vo x f) = true) then 1 else 0) := by
    unfold nX11_isInBox
    refine wh_post (fun s : Int32 => ∃ f, f ≤ 5 ∧ s = nI f ∧ ∀ e, e < f → (bk (bX P i) e).testBit (vo x e) = true) (fun s => 5 - s.toNatClampNeg) (fun rr => rr = _) ?_ _ ⟨0, by omega, rfl, fun e he => by omega⟩
    intro s ⟨f, hf, a1, a2⟩
    unfold wX11_isInBox_2
    rw [a1]
    by_cases q : f = 5
    · rw [q, if_pos (show (5 : Int32) ≤ nI 5 by decide)]
      refine ⟨_, rfl, ?_⟩
      rw [if_pos (dB_t.mpr (fun e he => a2 e (by omega)))]
    · have v := vo_lt x f
      have h32 := bk_lt (bX P i) f
      rw [if_neg (show ¬ (5 : Int32) ≤ nI f from fun e => by have := (nN_le (a := 5) (by omega) (by omega)).mp e; omega), show (5 : Int32) * nI i = nI (5 * i) from nI_mul 5 i, nN_add, zchk_t (zin_nI (by omega) (by omega)), m_valueOf hM (by omega) (by omega), Option.bind_some, nI_cl (by omega), mL_at hBD hO hL hi (by omega), m_has (by omega) (by omega), Option.bind_some]
      cases hb2 : (bk (bX P i) f).testBit (vo x f) with
      | true =>
        rw [if_neg (show ¬ (if true = true then (1 : Int32) else 0) = 0 by decide)]
        refine ⟨_, rfl, ⟨f + 1, by omega, nI_s f, fun e he => ?_⟩, ?_⟩
        · by_cases q2 : e = f
          · rw [q2]; exact hb2
          · exact a2 e (by omega)
        · rw [nI_s, nI_cl (by omega), nI_cl (by omega)]
          omega
      | false =>
        rw [if_pos (show (if false = true then (1 : Int32) else 0) = 0 by decide)]
        refine ⟨_, rfl, ?_⟩
        rw [if_neg (fun e => by
          rw [dB_t] at e
          rw [e f (by omega)] at hb2
          cases hb2)]
  obtain ⟨rr, w, e⟩ := key
  rw [w, e]
theorem hl_form (hO : pOK P) {c i : Nat} (hc : rOK P c) (hi : i < nB P) : dB (∀ f, f < 5 → (bk (bX P i) f).testBit (vo (fno (fun f => rv c f - 1) (pn P)) f) = true) = hlB P c i := by
  have h5 := hO.1
  obtain ⟨b1, b2, b3⟩ := bX_spec hi
  obtain ⟨k1, k2, k3⟩ := gK_spec b2
  have hv := (vo_fno (a := fun f => rv c f - 1) h5 (fun e he => by have := hc.2.1 e he; have := (hO.2.1 e he).2.1; omega)).2
  unfold hlB
  rw [Bool.eq_iff_iff, dB_t, dB_t]
  constructor
  · intro h f hf
    have := h f (by omega)
    rw [hv f (by omega), if_pos hf] at this
    exact this
  · intro h f hf
    rw [hv f hf]
    by_cases q : f < pn P
    · rw [if_pos q]; exact h f q
    · rw [if_neg q, k2 f (by omega) hf]
      rfl
end S21
