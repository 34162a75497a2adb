
/-! ===== idle edits ===== -/
section Id
variable {P : zPl} {g : zS}
/-- whether values of the last r fields that an edit has leave none of x -/
def idf (P : zPl) (e : Nat) : Nat → Nat → Bool
  | 0, x => x == 0
  | r + 1, x => anN (fun v => (pE P e (pn P - (r + 1))).testBit v && idf P e r (x &&& pT P (pn P - (r + 1)) v)) (pq P (pn P - (r + 1)))
theorem idf_iff (P : zPl) (e : Nat) : ∀ r, r ≤ pn P → ∀ x, idf P e r x = true ↔ ∃ a : Nat → Nat, (∀ f, pn P - r ≤ f → f < pn P → a f < pq P f ∧ (pE P e f).testBit (a f) = true) ∧ ∀ b, x.testBit b = true → (∀ f, pn P - r ≤ f → f < pn P → (pT P f (a f)).testBit b = true) → False := by
  intro r
  induction r with
  | zero =>
    intro _ x
    constructor
    · intro h
      have h0 : x = 0 := beq_iff_eq.mp h
      exact ⟨fun _ => 0, fun f h1 h2 => absurd h2 (by omega), fun b hb _ => by rw [h0, Nat.zero_testBit] at hb; cases hb⟩
    · rintro ⟨a, _, h⟩
      exact beq_iff_eq.mpr (b_zero.mpr (fun b hb => h b hb (fun f h1 h2 => absurd h2 (by omega))))
  | succ r ih =>
    intro hr x
    have e1 : idf P e (r + 1) x = anN (fun v => (pE P e (pn P - (r + 1))).testBit v && idf P e r (x &&& pT P (pn P - (r + 1)) v)) (pq P (pn P - (r + 1))) := rfl
    rw [e1, anN_iff]
    have hf : pn P - r = pn P - (r + 1) + 1 := by omega
    generalize hk : pn P - (r + 1) = k at *
    constructor
    · rintro ⟨v, hv, h⟩
      rw [Bool.and_eq_true, ih (by omega)] at h
      obtain ⟨h1, a, h2, h3⟩ := h
      refine ⟨fun f => if f = k then v else a f, fun f hf1 hf2 => ?_, fun b hb hall => ?_⟩
      · dsimp only
        by_cases q : f = k
        · rw [if_pos q, q]; exact ⟨hv, h1⟩
        · rw [if_neg q]; exact h2 f (by omega) hf2
      · refine h3 b ?_ (fun f hf1 hf2 => ?_)
        · have h4 := hall k (Nat.le_refl _) (by omega)
          dsimp only at h4
          rw [if_pos rfl] at h4
          rw [Nat.testBit_and, hb, h4]; rfl
        · have h4 := hall f (by omega) hf2
          dsimp only at h4
          rw [if_neg (by omega)] at h4
          exact h4
    · rintro ⟨a, h2, h3⟩
      refine ⟨a k, (h2 k (Nat.le_refl _) (by omega)).1, ?_⟩
      rw [Bool.and_eq_true, ih (by omega)]
      refine ⟨(h2 k (Nat.le_refl _) (by omega)).2, a, fun f hf1 hf2 => h2 f (by omega) hf2, fun b hb hall => ?_⟩
      rw [Nat.testBit_and, Bool.and_eq_true] at hb
      refine h3 b hb.1 (fun f hf1 hf2 => ?_)
      by_cases q : f = k
      · rw [q]; exact hb.2
      · exact hall f (by omega) hf2
/-- an edit that no form fails alone -/
def idl (P : zPl) (e : Nat) : Bool := !idf P e (pn P) ((2 ^ pm P - 1) &&& (2 ^ e ^^^ 4294967295))
theorem idl_iff (hO : pOK P) {e : Nat} (he : e < pm P) : idl P e = false ↔ ∃ a : Nat → Nat, (∀ f, f < pn P → a f < pq P f) ∧ fs P a = 2 ^ e := by
  have hm := hO.2.2.2.1
  unfold idl
  rw [Bool.not_eq_false', idf_iff P e (pn P) (Nat.le_refl _)]
  have hb : ∀ b, ((2 ^ pm P - 1) &&& (2 ^ e ^^^ 4294967295)).testBit b = true ↔ b < pm P ∧ b ≠ e := fun b => by
    have h := sdl_bit (S := 2 ^ pm P - 1) (f := e) (i := b)
    by_cases q : b < 32
    · have h2 := h q
      unfold sdl at h2
      rw [h2, m1_bit]
      simp
    · rw [Nat.testBit_and, m1_bit, decide_eq_false (by omega), Bool.false_and]
      constructor
      · intro k; cases k
      · intro k; omega
  constructor
  · rintro ⟨a, h1, h2⟩
    refine ⟨a, fun f hf => (h1 f (by omega) hf).1, Nat.eq_of_testBit_eq (fun b => ?_)⟩
    rw [Bool.eq_iff_iff, fs_bit, Nat.testBit_two_pow, decide_eq_true_eq]
    constructor
    · rintro ⟨c1, c2⟩
      by_cases q : b = e
      · exact q.symm
      · exact (h2 b ((hb b).mpr ⟨c1, q⟩) (fun f _ hf => by rw [pT_bit, decide_eq_true c1, c2 f hf]; rfl)).elim
    · intro q
      rw [← q]
      exact ⟨he, fun f hf => (h1 f (by omega) hf).2⟩
  · rintro ⟨a, h1, h2⟩
    refine ⟨a, fun f _ hf => ⟨h1 f hf, ?_⟩, fun b hbb hall => ?_⟩
    · have := (fs_bit P a e).mp (by rw [h2, Nat.testBit_two_pow_self])
      exact this.2 f hf
    · have hbb := (hb b).mp hbb
      have h3 := (fs_bit P a b).mpr ⟨hbb.1, fun f hf => by
        have h := hall f (by omega) hf
        rw [pT_bit, decide_eq_true hbb.1] at h
        exact h⟩
      rw [h2, Nat.testBit_two_pow, decide_eq_true_eq] at h3
      exact hbb.2 h3.symm
theorem e_isIdle (hO : pOK P) (hP : cP P g) (hE : cE P g) {e : Nat} (he : e < pm P) : nX5_isIdle (nI e) g = some (if idl P e then 1 else 0) := by
  have h5 := hO.1
  have h6 := p2m hO
  have hm := hO.2.2.2.1
  have hmp : 0 < 2 ^ pm P := Nat.two_pow_pos _
  unfold nX5_isIdle
  obtain ⟨r, w, q⟩ := wh_up (step := wX5_isIdle_13 (nI e) g) (fun i (s : Int64 × Int32) => s.2 = nJ (pn P - i) ∧ ∀ x, x < 64 → fb s.1 x = idf P e i x) (fun r : Int32 => r = if idl P e then 1 else 0) (pn P) (fun i s hi hI => by
    obtain ⟨i1, i2⟩ := hI
    obtain ⟨s1, s2⟩ := s
    dsimp only at i1 i2
    have hk : pn P - i = pn P - (i + 1) + 1 := by omega
    have e2 : s2 = nI (pn P - (i + 1)) := by rw [i1, hk, nJ_s]
    have hf : pn P - (i + 1) < pn P := by omega
    have hE9 := hO.2.2.2.2.1 e he (pn P - (i + 1)) hf
    dsimp only [wX5_isIdle_13]
    rw [if_neg (show ¬ s2 < 0 by rw [e2]; exact nI_nn (by omega)), e2, e_editSet hO hP he hf]
    dsimp only [Option.bind_some]
    rw [e_aheadOf hO hP hE _ hf]
    dsimp only [Option.bind_some]
    have e3 : nI (pn P - (i + 1)) + (-1 : Int32) = nJ (pn P - (i + 1)) := by
      unfold nJ
      rw [Int32.sub_eq_add_neg]
    rw [e3]
    refine ⟨_, rfl, rfl, fun x hx => ?_⟩
    dsimp only
    rw [afN_bit P _ _ _ hx]
    refine anN_congr _ (fun v _ => ?_)
    rw [i2 _ (Nat.lt_of_le_of_lt Nat.and_le_left hx)]) (fun s hI => by
    obtain ⟨i1, i2⟩ := hI
    obtain ⟨s1, s2⟩ := s
    dsimp only at i1 i2
    rw [Nat.sub_self] at i1
    dsimp only [wX5_isIdle_13]
    have hle : (2 ^ pm P - 1) &&& (2 ^ e ^^^ 4294967295) ≤ 2 ^ pm P - 1 := Nat.and_le_left
    rw [if_pos (show s2 < 0 by rw [i1]; exact (nJ_neg (by omega)).mpr rfl), e_allEdits hO hP]
    dsimp only [Option.bind_some]
    rw [nI_shl (by omega), nI_m1, nI_xor, nI_and, e_has (by omega)]
    dsimp only [Option.bind_some]
    rw [i2 _ (by omega)]
    unfold idl
    cases idf P e (pn P) ((2 ^ pm P - 1) &&& (2 ^ e ^^^ 4294967295)) <;> exact ⟨_, rfl, rfl⟩) (s := ((1 : Int64), g.1 3 0 - (1 : Int32))) ⟨by rw [hP.1, Nat.sub_zero]; rfl, fun x hx => fb_1 hx⟩
  rw [w, q]
end Id
