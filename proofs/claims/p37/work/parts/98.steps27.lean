
/-! ===== steps: cover ===== -/
section S27
variable {S S' : zSt} {g h k : zS} {P : zPl}
/-- another box holds the form -/
noncomputable def otB (P : zPl) (n i : Nat) (a : Nat → Nat) : Bool := dB (∃ o, o < nB P ∧ o ≠ i ∧ ∀ f, f < n → (bk (bX P o) f).testBit (a f) = true)
noncomputable def cvT (P : zPl) (i : Nat) (own : Bool) (a : Nat → Nat) : Nat := if (own && otB P (pn P) i a) = true then 0 else 1
noncomputable def cvD (P : zPl) (i f v : Nat) : Bool := (bk (bX P i) f).testBit v
/-- how many forms of the box; how many of its own -/
noncomputable def cvN (P : zPl) (i : Nat) (own : Bool) : Nat := nst (cvD P i) (pq P) (cvT P i own) (pn P) 0 (fun _ => 0)
noncomputable def cvQ (P : zPl) (i : Nat) (own : Bool) (a : Nat → Nat) : Bool := alB (fun f => decide (a f < mq P f)) 5 && (dB (∀ f, f < 5 → (bk (bX P i) f).testBit (a f) = true) && !(own && otB P 5 i a))
theorem bx_out {i f : Nat} (hi : i < nB P) (h1 : pn P ≤ f) (h2 : f < 5) : bk (bX P i) f = 1 := (gK_spec (bX_spec hi).2.1).2.1 f h1 h2
theorem ot_eq (h5 : pn P ≤ 5) {i : Nat} {a : Nat → Nat} (ha : ∀ f, pn P ≤ f → f < 5 → a f = 0) : otB P 5 i a = otB P (pn P) i a := by
  unfold otB
  rw [Bool.eq_iff_iff, dB_t, dB_t]
  constructor
  · rintro ⟨o, h1, h2, h3⟩
    exact ⟨o, h1, h2, fun f hf => h3 f (by omega)⟩
  · rintro ⟨o, h1, h2, h3⟩
    refine ⟨o, h1, h2, fun f hf => ?_⟩
    by_cases q : f < pn P
    · exact h3 f q
    · rw [bx_out h1 (by omega) hf, ha f (by omega) hf]
      rfl
theorem cvN_cnt (hO : pOK P) {i : Nat} (hi : i < nB P) (own : Bool) : cnt (fun x => cvQ P i own (vo x)) 3125 = cvN P i own := by
  have h5 := hO.1
  refine nst_all (q := cvQ P i own) h5 (fun f hf => (hO.2.1 f hf).2.1) (fun x hx => ?_) (fun x h1 h2 => ?_) (fun a b hab => ?_)
  · unfold cvQ at hx
    rw [Bool.and_eq_true, Bool.and_eq_true, alB_iff, dB_t] at hx
    refine ⟨fun f hf => ?_, fun f hf hf5 => ?_⟩
    · have := of_decide_eq_true (hx.1 f (by omega))
      rw [mq_in hf] at this
      exact ⟨this, hx.2.1 f (by omega)⟩
    · have := of_decide_eq_true (hx.1 f hf5)
      rw [mq_out hf] at this
      omega
  · unfold cvQ cvT
    rw [ot_eq h5 h2]
    have e1 : alB (fun f => decide (vo x f < mq P f)) 5 = true := by
      rw [alB_iff]
      intro f hf
      by_cases q : f < pn P
      · rw [mq_in q]; exact decide_eq_true (h1 f q).1
      · rw [mq_out (by omega), h2 f (by omega) hf]; rfl
    have e2 : dB (∀ f, f < 5 → (bk (bX P i) f).testBit (vo x f) = true) = true := by
      rw [dB_t]
      intro f hf
      by_cases q : f < pn P
      · exact (h1 f q).2
      · rw [bx_out hi (by omega) hf, h2 f (by omega) hf]; rfl
    rw [e1, e2, Bool.true_and, Bool.true_and]
    cases own && otB P (pn P) i (vo x) <;> rfl
  · have e : otB P (pn P) i a = otB P (pn P) i b := by
      unfold otB
      rw [Bool.eq_iff_iff, dB_t, dB_t]
      exact ⟨fun ⟨o, h1, h2, h3⟩ => ⟨o, h1, h2, fun f hf => by rw [← hab f hf]; exact h3 f hf⟩, fun ⟨o, h1, h2, h3⟩ => ⟨o, h1, h2, fun f hf => by rw [hab f hf]; exact h3 f hf⟩⟩
    unfold cvT
    rw [e]
/-- the class: all forms of a box -/
noncomputable def cvP' (P : zPl) (i n : Nat) : Nat := foN (fun f a => a * pcn (bk (bX P i) f)) n 1
theorem pcn_sm (hO : pOK P) {i f : Nat} (hi : i < nB P) (hf : f < pn P) : pcn (bk (bX P i) f) = sm (fun v => if cvD P i f v then 1 else 0) (pq P f) := by
  have hq := (hO.2.1 f hf).2.1
  have hb := ((gK_spec (bX_spec hi).2.1).2.2.1 f hf).2
  show sm (fun v => if (bk (bX P i) f).testBit v then 1 else 0) 6 = _
  rw [sm_cut (m := pq P f) (by omega) (fun v h1 h2 => if_neg (fun q => by have := big_bit hb q; omega))]
  rfl
theorem nst_1 (hO : pOK P) {i : Nat} (hi : i < nB P) : ∀ r f, f + r = pn P → ∀ a b : Nat → Nat, nst (cvD P i) (pq P) (fun _ => 1) r f a = nst (cvD P i) (pq P) (fun _ => 1) r f b
  | 0, f, _, a, b => rfl
  | r + 1, f, h, a, b => by
    rw [nst_s, nst_s]
    exact sm_congr _ (fun v hv => by rw [nst_1 hO hi r (f + 1) (by omega) (upA a f v) (upA b f v)])
theorem cvP_n (hO : pOK P) {i : Nat} (hi : i < nB P) : ∀ r f, f + r = pn P → cvP' P i f * nst (cvD P i) (pq P) (fun _ => 1) r f (fun _ => 0) = cvP' P i (pn P)
  | 0, f, h => by
    show cvP' P i f * 1 = _
    rw [Nat.mul_one, show f = pn P by omega]
  | r + 1, f, h => by
    rw [← cvP_n hO hi r (f + 1) (by omega), nst_s]
    show _ = cvP' P i f * pcn (bk (bX P i) f) * _
    rw [Nat.mul_assoc, pcn_sm hO hi (by omega), ← sm_mul]
    congr 1
    refine sm_congr _ (fun v hv => ?_)
    rw [nst_1 hO hi r (f + 1) (by omega) (upA (fun _ => 0) f v) (fun _ => 0)]
    by_cases q : cvD P i f v = true
    · rw [if_pos q, if_pos q, Nat.one_mul]
    · rw [if_neg q, if_neg q, Nat.zero_mul]
theorem cvN_all (hO : pOK P) {i : Nat} (hi : i < nB P) : cvN P i false = cvP' P i (pn P) := by
  rw [← cvP_n hO hi (pn P) 0 (by omega)]
  show _ = 1 * _
  rw [Nat.one_mul]
  rfl
theorem e_allFormsB (hO : pOK P) (hP : cP P g) (hF : lF P 33554432 g) {i : Nat} (hi : i < nB P) : nX0_allForms (nI i) g = some (nI (cvN P i false)) := by
  have h5 := hO.1
  rw [cvN_all hO hi]
  unfold nX0_allForms
  refine wh_seq (fun f => (nI (cvP' P i f), nI f)) (pn P) (fun f hf => ?_) ?_
  · have h32 := bk_lt (bX P i) f
    dsimp only [wX0_allForms_4]
    rw [hP.1, if_neg (fun q => by rw [nN_le (by omega) (by omega)] at q; omega), e_setOf hO hF hi hf, Option.bind_some, e_bitCount (by omega), Option.bind_some, nI_mul, nI_s]
    rfl
  · dsimp only [wX0_allForms_4]
    rw [hP.1, if_pos (Int32.le_refl _)]
    rfl
/-- the class: is the form in another box -/
theorem e_isInOther (hO : pOK P) (hF : lF P 33554432 g) {i : Nat} (hi : i < nB P) {a : Nat → Nat} (ha : ∀ f, f < pn P → a f < 5) : nX0_isInOther (nI i) (nI (enC (fun f => 2 ^ a f) (pn P))) g = some (if otB P (pn P) i a then 1 else 0) := by
  have h5 := hO.1
  have hb : nB P ≤ 923521 := nB_le hO
  have h26 : g.1 26 3 = nI (nB P) := hF.1
  have hp : ∀ f, f < pn P → 2 ^ a f < 32 := fun f hf => by
    have := ha f hf
    have : 2 ^ a f ≤ 2 ^ 4 := Nat.pow_le_pow_right (by omega) (by omega)
    omega
  have hl : enC (fun f => 2 ^ a f) (pn P) < 2147483648 := by
    have h1 := enC_lt (B := fun f => 2 ^ a f) (pn P) hp
    have h2 : 2 ^ (5 * pn P) ≤ 2 ^ 25 := Nat.pow_le_pow_right (by omega) (by omega)
    omega
  have hin : ∀ o, (∀ v, (enC (fun f => 2 ^ a f) (pn P)).testBit v = true → (enC (bk (bX P o)) (pn P)).testBit v = true) ↔ ∀ f, f < pn P → (bk (bX P o) f).testBit (a f) = true := fun o => by
    have hbk := fun f (_ : f < pn P) => bk_lt (bX P o) f
    constructor
    · intro h f hf
      have := h (5 * f + a f) (by
        rw [enC_bit _ hp f _ (ha f hf), decide_eq_true hf, Nat.testBit_two_pow_self]
        rfl)
      rw [enC_bit _ hbk f _ (ha f hf), Bool.and_eq_true] at this
      exact this.2
    · intro h v q
      have e : v = 5 * (v / 5) + v % 5 := by omega
      rw [e] at q ⊢
      rw [enC_bit _ hp _ _ (Nat.mod_lt _ (by omega)), Bool.and_eq_true, decide_eq_true_eq, Nat.testBit_two_pow, decide_eq_true_eq] at q
      rw [enC_bit _ hbk _ _ (Nat.mod_lt _ (by omega)), decide_eq_true q.1, ← q.2]
      exact h _ q.1
  have key : ∃ rr, nX0_isInOther (nI i) (nI (enC (fun f => 2 ^ a f) (pn P))) g = some rr ∧ rr = (if otB P (pn P) i a then 1 else 0) := by
    unfold nX0_isInOther
    refine wh_post (fun s : Int32 => ∃ o, o ≤ nB P ∧ s = nI o ∧ ∀ e, e < o → e ≠ i → ¬ ∀ f, f < pn P → (bk (bX P e) f).testBit (a f) = true) (fun s => nB P - s.toNatClampNeg) (fun rr => rr = (if otB P (pn P) i a then (1 : Int32) else 0)) ?_ _ ⟨0, Nat.zero_le _, rfl, fun e he => by omega⟩
    intro s ⟨o, ho, a1, a2⟩
    unfold wX0_isInOther_2
    rw [a1, h26]
    by_cases q : nB P ≤ o
    · rw [if_pos ((nN_le (by omega) (by omega)).mpr q)]
      refine ⟨_, rfl, ?_⟩
      rw [if_neg (fun e => ?_)]
      unfold otB at e
      rw [dB_t] at e
      obtain ⟨e, h1, h2, h3⟩ := e
      exact a2 e (by omega) h2 h3
    · rw [if_neg (fun e => q ((nN_le (by omega) (by omega)).mp e))]
      have nx : (o = i ∨ ¬ ∀ f, f < pn P → (bk (bX P o) f).testBit (a f) = true) → (∃ o_1, o_1 ≤ nB P ∧ nI (o + 1) = nI o_1 ∧ ∀ e, e < o_1 → e ≠ i → ¬ ∀ f, f < pn P → (bk (bX P e) f).testBit (a f) = true) ∧ nB P - (nI (o + 1)).toNatClampNeg < nB P - (nI o).toNatClampNeg := fun hh => ⟨⟨o + 1, by omega, rfl, fun e he hne => by
        by_cases q2 : e = o
        · rw [q2] at hne ⊢
          exact hh.resolve_left hne
        · exact a2 e (by omega) hne⟩, by
        rw [nI_cl (by omega), nI_cl (by omega)]
        omega⟩
      by_cases q2 : o = i
      · rw [if_pos (by rw [q2]), nI_s]
        exact ⟨_, rfl, nx (Or.inl q2)⟩
      · obtain ⟨l1, l2⟩ := lF_at hO hF (i := o) (by omega)
        rw [if_neg (fun e => q2 ((nN_eq (by omega) (by omega)).mp e)), zchk_t l2, nI_cl (by omega), l1]
        by_cases q3 : ∀ f, f < pn P → (bk (bX P o) f).testBit (a f) = true
        · rw [if_pos ((sub_not31 hl).mpr ((hin o).mpr q3))]
          refine ⟨_, rfl, ?_⟩
          show (1 : Int32) = _
          rw [if_pos (show otB P (pn P) i a = true from by unfold otB; exact dB_t.mpr ⟨o, by omega, q2, q3⟩)]
        · rw [if_neg (fun e => q3 ((hin o).mp ((sub_not31 hl).mp e))), nI_s]
          have := nx (Or.inr q3)
          rw [nI_cl (n := o) (by omega)] at this
          exact ⟨_, rfl, this⟩
  obtain ⟨rr, w, e⟩ := key
  rw [w, e]
theorem e_rOwn (hO : pOK P) (hP : cP P g) (hF : lF P 33554432 g) {i : Nat} (hi : i < nB P) : ∀ r f n, f + r = pn P → r < n → ∀ a : Nat → Nat, (∀ e, e < f → a e < 5) → rOwn n (nI i) (nI f) (nI (enC (fun e => 2 ^ a e) f)) g = some (nI (nst (cvD P i) (pq P) (cvT P i true) r f a)) := by
  have h5 := hO.1
  intro r
  induction r with
  | zero =>
    intro f n hf hn a ha
    obtain ⟨m, rfl⟩ := Nat.exists_eq_succ_of_ne_zero (by omega : n ≠ 0)
    have e : f = pn P := by omega
    subst e
    show nX0_ownFrom (nX0_ownBehind (rOwn m)) _ _ _ g = _
    unfold nX0_ownFrom
    rw [hP.1, if_pos (Int32.le_refl _), e_isInOther hO hF hi ha, Option.bind_some]
    show _ = some (nI (cvT P i true a))
    unfold cvT
    rw [Bool.true_and]
    cases otB P (pn P) i a with
    | true => rw [if_neg (show ¬ (if true = true then (1 : Int32) else 0) = 0 by decide), if_pos rfl]; rfl
    | false => rw [if_pos (show (if false = true then (1 : Int32) else 0) = 0 by decide), if_neg (by decide)]; rfl
  | succ r ih =>
    intro f n hf hn a ha
    obtain ⟨m, rfl⟩ := Nat.exists_eq_succ_of_ne_zero (by omega : n ≠ 0)
    have hff : f < pn P := by omega
    have hq := (hO.2.1 f hff).2.1
    have h32 := bk_lt (bX P i) f
    show nX0_ownFrom (nX0_ownBehind (rOwn m)) _ _ _ g = _
    unfold nX0_ownFrom nX0_ownBehind
    rw [hP.1, if_neg (fun q => by rw [nN_le (by omega) (by omega)] at q; omega), nst_s]
    have key : wh (wX0_ownBehind_6 (rOwn m) (nI i) (nI f) (nI (enC (fun e => 2 ^ a e) f)) g) (0, 0) = some (nI (sm (fun v => if cvD P i f v then nst (cvD P i) (pq P) (cvT P i true) r (f + 1) (upA a f v) else 0) (pq P f))) := by
      refine wh_seq (fun v => (nI (sm (fun v => if cvD P i f v then nst (cvD P i) (pq P) (cvT P i true) r (f + 1) (upA a f v) else 0) v), nI v)) (pq P f) (fun v hv => ?_) ?_
      · dsimp only [wX0_ownBehind_6]
        rw [zchk_t (zin_nI (by omega) (by omega)), nI_cl (by omega), hP.2.1 f hff, if_neg (fun q => by rw [nN_le (by omega) (by omega)] at q; omega), e_setOf hO hF hi hff, Option.bind_some, sm_s]
        have hbit := nI_bit0 (s := bk (bX P i) f) (k := v) (by omega) (by omega)
        by_cases q : (bk (bX P i) f).testBit v = true
        · have hm : nI (enC (fun e => 2 ^ a e) f) ||| nI (2 ^ (5 * f + v)) = nI (enC (fun e => 2 ^ upA a f v e) (f + 1)) := by
            rw [nI_or, enC_s, enC_congr f (fun e he => show 2 ^ upA a f v e = 2 ^ a e by unfold upA; rw [if_neg (by omega)]), show upA a f v f = v from if_pos rfl, Nat.shiftLeft_eq, ← Nat.pow_add, Nat.add_comm v]
          rw [if_neg (fun e => by rw [hbit] at e; rw [e] at q; cases q)]
          unfold nX0_bitOf
          rw [show (5 : Int32) * nI f = nI (5 * f) from nI_mul 5 f, nN_add, nI_shl (by omega), Option.bind_some, hm, nI_s, ih (f + 1) m (by omega) (by omega) (upA a f v) (fun e he => by
            unfold upA
            by_cases q2 : e = f
            · rw [if_pos q2]; omega
            · rw [if_neg q2]; exact ha e (by omega)), Option.bind_some, nN_add, nI_s, if_pos (show cvD P i f v = true from q)]
        · rw [if_pos (hbit.mpr (by rw [← Bool.not_eq_true]; exact q)), nI_s, if_neg (show ¬ cvD P i f v = true from q)]
          rfl
      · dsimp only [wX0_ownBehind_6]
        rw [zchk_t (zin_nI (by omega) (by omega)), nI_cl (by omega), hP.2.1 f hff, if_pos (Int32.le_refl _)]
        rfl
    rw [key, Option.bind_some]
theorem e_ownForms (hO : pOK P) (hP : cP P g) (hF : lF P 33554432 g) {i : Nat} (hi : i < nB P) : nX0_ownForms (nI i) g = some (nI (cvN P i true)) := by
  have h5 := hO.1
  have := e_rOwn hO hP hF hi (pn P) 0 12 (by omega) (by omega) (fun _ => 0) (fun e he => by omega)
  unfold nX0_ownForms
  rw [show (0 : Int32) = nI 0 from rfl, show nI 0 = nI (enC (fun e => 2 ^ (fun _ => 0 : Nat → Nat) e) 0) from rfl] at *
  rw [this, Option.bind_some]
  rfl
end S27
