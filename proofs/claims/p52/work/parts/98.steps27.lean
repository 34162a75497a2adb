
/-! ===== steps: cover ===== -/
section S27
variable {S S' : zSt} {g h k : zS} {P : zPl}
/-- another box holds the form -/
noncomputable def otB (P : zPl) (n i : Nat) (a : Nat → Nat) : Bool := dB (∃ o, o < nB P ∧ o ≠ i ∧ ∀ f, f < n → (bk (bX P o) f).testBit (a f) = true)
noncomputable def cvT (P : zPl) (i : Nat) (own : Bool) (a : Nat → Nat) : Nat := if (own && otB P (pn P) i a) = true then 0 else 1
noncomputable def cvD (P : zPl) (i f v : Nat) : Bool := (bk (bX P i) f).testBit v
/-- how many forms of the box; how many of its own -/
noncomputable def cvN (P : zPl) (i : Nat) (own : Bool) : Nat := nst (cvD P i) (pq P) (cvT P i own) (pn P) 0 (fun _ => 0)
noncomputable def cvQ (P : zPl) (i : Nat) (own : Bool) (a : Nat → Nat) : Bool := alB (fun f => decide (a f < mq P f)) 5 && (dB (∀ f, f < 5 → (bk (bX P i) f).testBit (a f) = true) && !(own && otB P 5 i a))
theorem bx_out {i f : Nat} (hi : i < nB P) (h1 : pn P ≤ f) (h2 : f < 5) : bk (bX P i) f = 1 := (gK_spec (bX_spec hi).2.1).2.1 f h1 h2
theorem ot_eq (h5 : pn P ≤ 5) {i : Nat} {a : Nat → Nat} (ha : ∀ f, pn P ≤ f → f < 5 → a f = 0) : otB P 5 i a = otB P (pn P) i a := by
  unfold otB
  rw [Bool.eq_iff_iff, dB_t, dB_t]
  constructor
  · rintro ⟨o, h1, h2, h3⟩
    exact ⟨o, h1, h2, fun f hf => h3 f (by omega)⟩
  · rintro ⟨o, h1, h2, h3⟩
    refine ⟨o, h1, h2, fun f hf => ?_⟩
    by_cases q : f < pn P
    · exact h3 f q
    · rw [bx_out h1 (by omega) hf, ha f (by omega) hf]
      rfl
theorem cvN_cnt (hO : pOK P) {i : Nat} (hi : i < nB P) (own : Bool) : cnt (fun x => cvQ P i own (vo x)) 3125 = cvN P i own := by
  have h5 := hO.1
  refine nst_all (q := cvQ P i own) h5 (fun f hf => (hO.2.1 f hf).2.1) (fun x hx => ?_) (fun x h1 h2 => ?_) (fun a b hab => ?_)
  · unfold cvQ at hx
    rw [Bool.and_eq_true, Bool.and_eq_true, alB_iff, dB_t] at hx
    refine ⟨fun f hf => ?_, fun f hf hf5 => ?_⟩
    · have := of_decide_eq_true (hx.1 f (by omega))
      rw [mq_in hf] at this
      exact ⟨this, hx.2.1 f (by omega)⟩
    · have := of_decide_eq_true (hx.1 f hf5)
      rw [mq_out hf] at this
      omega
  · unfold cvQ cvT
    rw [ot_eq h5 h2]
    have e1 : alB (fun f => decide (vo x f < mq P f)) 5 = true := by
      rw [alB_iff]
      intro f hf
      by_cases q : f < pn P
      · rw [mq_in q]; exact decide_eq_true (h1 f q).1
      · rw [mq_out (by omega), h2 f (by omega) hf]; rfl
    have e2 : dB (∀ f, f < 5 → (bk (bX P i) f).testBit (vo x f) = true) = true := by
      rw [dB_t]
      intro f hf
      by_cases q : f < pn P
      · exact (h1 f q).2
      · rw [bx_out hi (by omega) hf, h2 f (by omega) hf]; rfl
    rw [e1, e2, Bool.true_and, Bool.true_and]
    cases own && otB P (pn P) i (vo x) <;> rfl
  · have e : otB P (pn P) i a = otB P (pn P) i b := by
      unfold otB
      rw [Bool.eq_iff_iff, dB_t, dB_t]
      exact ⟨fun ⟨o, h1, h2, h3⟩ => ⟨o, h1, h2, fun f hf => by rw [← hab f hf]; exact h3 f hf⟩, fun ⟨o, h1, h2, h3⟩ => ⟨o, h1, h2, fun f hf => by rw [hab f hf]; exact h3 f hf⟩⟩
    unfold cvT
    rw [e]
/-- the class: all forms of a box -/
noncomputable def cvP' (P : zPl) (i n : Nat) : Nat := foN (fun f a => a * pcn (bk (bX P i) f)) n 1
theorem pcn_sm (hO : pOK P) {i f : Nat} (hi : i < nB P) (hf : f < pn P) : pcn (bk (bX P i) f) = sm (fun v => if cvD P i f v then 1 else 0) (pq P f) := by
  have hq := (hO.2.1 f hf).2.1
  have hb := ((gK_spec (bX_spec hi).2.1).2.2.1 f hf).2
  show sm (fun v => if (bk (bX P i) f).testBit v then 1 else 0) 6 = _
  rw [sm_cut (m := pq P f) (by omega) (fun v h1 h2 => if_neg (fun q => by have := big_bit hb q; omega))]
  rfl
theorem nst_1 (hO : pOK P) {i : Nat} (hi : i < nB P) : ∀ r f, f + r = pn P → ∀ a b : Nat → Nat, nst (cvD P i) (pq P) (fun _ => 1) r f a = nst (cvD P i) (pq P) (fun _ => 1) r f b
  | 0, f, _, a, b => rfl
  | r + 1, f, h, a, b => by
    rw [nst_s, nst_s]
    exact sm_congr _ (fun v hv => by rw [nst_1 hO hi r (f + 1) (by omega) (upA a f v) (upA b f v)])
theorem cvP_n (hO : pOK P) {i : Nat} (hi : i < nB P) : ∀ r f, f + r = pn P → cvP' P i f * nst (cvD P i) (pq P) (fun _ => 1) r f (fun _ => 0) = cvP' P i (pn P)
  | 0, f, h => by
    show cvP' P i f * 1 = _
    rw [Nat.mul_one, show f = pn P by omega]
  | r + 1, f, h => by
    rw [← cvP_n hO hi r (f + 1) (by omega), nst_s]
    show _ = cvP' P i f * pcn (bk (bX P i) f) * _
    rw [Nat.mul_assoc, pcn_sm hO hi (by omega), ← sm_mul]
    congr 1
    refine sm_congr _ (fun v hv => ?_)
    rw [nst_1 hO hi r (f + 1) (by omega) (upA (fun _ => 0) f v) (fun _ => 0)]
    by_cases q : cvD P i f v = true
    · rw [if_pos q, if_pos q, Nat.one_mul]
    · rw [if_neg q, if_neg q, Nat.zero_mul]
theorem cvN_all (hO : pOK P) {i : Nat} (hi : i < nB P) : cvN P i false = cvP' P i (pn P) := by
  rw [← cvP_n hO hi (pn P) 0 (by omega)]
  show _ = 1 * _
  rw [Nat.one_mul]
  rfl
end S27
