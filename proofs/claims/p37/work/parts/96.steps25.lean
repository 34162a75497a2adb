
/-! ===== steps: from ===== -/
section S25
variable {S S' : zSt} {g h k : zS} {P : zPl}
/-- the form x stands in the box -/
def inX (P : zPl) (i x : Nat) : Prop := ∀ f, f < 5 → (bk (bX P i) f).testBit (vo x f) = true
/-- every form of the box fails one of the edits s -/
def cvP (P : zPl) (i s : Nat) : Prop := ∀ x, x < 3125 → isF5 P x = true → inX P i x → fsM P x &&& s ≠ 0
theorem bx_form (hO : pOK P) {i : Nat} (hi : i < nB P) {a : Nat → Nat} (ha : inB (bk (bX P i)) 0 (pn P) a) : fno a (pn P) < 3125 ∧ isF5 P (fno a (pn P)) = true ∧ inX P i (fno a (pn P)) ∧ fsM P (fno a (pn P)) = fs P a := by
  have h5 := hO.1
  obtain ⟨b1, b2, b3⟩ := bX_spec hi
  obtain ⟨k1, k2, k3⟩ := gK_spec b2
  have hq : ∀ f, f < pn P → a f < pq P f := fun f hf => big_bit (k3.1 f hf).2 (ha f (Nat.zero_le _) hf)
  obtain ⟨f1, f2, f3⟩ := fno_form hO hq
  have hv := (vo_fno h5 (fun f hf => Nat.lt_of_lt_of_le (hq f hf) (hO.2.1 f hf).2.1)).2
  refine ⟨f1, f2, fun f hf => ?_, f3⟩
  rw [hv f hf]
  by_cases q : f < pn P
  · rw [if_pos q]; exact ha f (Nat.zero_le _) q
  · rw [if_neg q, k2 f (by omega) hf]
    rfl
theorem in_inB {i x : Nat} (h5 : pn P ≤ 5) (h : inX P i x) : inB (bk (bX P i)) 0 (pn P) (vo x) := fun f _ hf => h f (by omega)
theorem fs_bT {P : zPl} (hn : pn P ≠ 0) (a : Nat → Nat) (e : Nat) : (fs P a).testBit e = true ↔ tA P a 0 (pn P) e := by
  rw [fs_bit]
  constructor
  · intro h f _ hf
    rw [pT_bit, decide_eq_true h.1, h.2 f hf]; rfl
  · intro h
    refine ⟨?_, fun f hf => ?_⟩
    · have h1 := h 0 (Nat.le_refl 0) (by omega)
      rw [pT_bit, Bool.and_eq_true, decide_eq_true_eq] at h1
      exact h1.1
    · have h1 := h f (Nat.zero_le f) hf
      rw [pT_bit, Bool.and_eq_true] at h1
      exact h1.2
theorem cv_cu (hO : pOK P) {i : Nat} (hi : i < nB P) (s : Nat) : cuP P (bk (bX P i)) 0 s ↔ ¬ cvP P i s := by
  have h5 := hO.1
  obtain ⟨b1, b2, b3⟩ := bX_spec hi
  obtain ⟨k1, k2, k3⟩ := gK_spec b2
  constructor
  · rintro ⟨a, ha, hn⟩ h
    obtain ⟨f1, f2, f3, f4⟩ := bx_form hO hi ha
    have q := h _ f1 f2 f3
    rw [f4] at q
    obtain ⟨e, he⟩ := ne0_bit q
    rw [Nat.testBit_and, Bool.and_eq_true] at he
    exact hn e he.2 ((fs_bT k1 a e).mp he.1)
  · intro h
    apply Classical.byContradiction
    intro q
    apply h
    intro x hx hf hin he
    apply q
    refine ⟨vo x, in_inB h5 hin, fun e hs hT => ?_⟩
    have e1 : fsM P x = fs P (vo x) := if_pos hf
    have := b_zero.mp he e
    rw [e1, Nat.testBit_and, hs, (fs_bT k1 (vo x) e).mpr hT] at this
    exact this rfl
theorem fs_lt2 (P : zPl) (a : Nat → Nat) : fs P a < 2 ^ pm P := bS_lt _ _
theorem cv_all (hO : pOK P) {i : Nat} (hi : i < nB P) : cvP P i (2 ^ pm P - 1) ∧ 1 ≤ pm P := by
  have h5 := hO.1
  obtain ⟨b1, b2, b3⟩ := bX_spec hi
  obtain ⟨k1, k2, k3⟩ := gK_spec b2
  constructor
  · intro x hx hf hin
    have e1 : fsM P x = fs P (vo x) := if_pos hf
    rw [e1, Nat.and_two_pow_sub_one_eq_mod, Nat.mod_eq_of_lt (fs_lt2 _ _)]
    exact k3.2.1 (vo x) (in_inB h5 hin)
  · apply Classical.byContradiction
    intro q
    have ha : ∃ a : Nat → Nat, ∀ f, f < pn P → (bk (bX P i) f).testBit (a f) = true := by
      refine ⟨fun f => @dite Nat (∃ e, (bk (bX P i) f).testBit e = true) (Classical.propDecidable _) (fun h => h.choose) (fun _ => 0), fun f hf => ?_⟩
      have h := ne0_bit (k3.1 f hf).1
      dsimp only
      rw [dif_pos h]
      exact h.choose_spec
    obtain ⟨a, ha⟩ := ha
    refine k3.2.1 a (fun f _ hf => ha f hf) ?_
    have := fs_lt2 P a
    have e : pm P = 0 := by omega
    rw [e] at this
    omega
/-- the fewest edits, the least of them -/
def fwR (P : zPl) (i R : Nat) : Prop := cvP P i R ∧ 1 ≤ R ∧ R < 2 ^ pm P ∧ ∀ s, 1 ≤ s → s < 2 ^ pm P → cvP P i s → pcn R < pcn s ∨ (pcn R = pcn s ∧ R ≤ s)
theorem fwR_uniq {i R R' : Nat} (h : fwR P i R) (h' : fwR P i R') : R = R' := by
  obtain ⟨a1, a2, a3, a4⟩ := h
  obtain ⟨b1, b2, b3, b4⟩ := h'
  have c1 := a4 R' b2 b3 b1
  have c2 := b4 R a2 a3 a1
  omega
theorem p6 (hO : pOK P) : 2 ^ pm P ≤ 64 := Nat.pow_le_pow_right (n := 2) (by omega) (show pm P ≤ 6 from hO.2.2.2.1)
theorem e_few60 (hO : pOK P) {F : Int64} {i : Nat} (hi : i < nB P) (hF : ∀ x, x < 64 → (fb F x = true ↔ ¬ cvP P i x)) : ∃ R, wh (wX0_fewestEdits_60 F g) (nI (2 ^ pm P - 1), nI (2 ^ pm P - 1)) = some R ∧ ∃ n, R = nI n ∧ fwR P i n := by
  have h6 := p6 hO
  obtain ⟨v1, v2⟩ := cv_all hO hi
  have h2 : 2 ^ 1 ≤ 2 ^ pm P := Nat.pow_le_pow_right (by omega) v2
  have hpc : ∀ k, k < 64 → pcn k ≤ 6 := fun k _ => pcn_le k
  refine wh_up (fun j (s : Int32 × Int32) => s.2 = nI (2 ^ pm P - 1 - j) ∧ ∃ b, s.1 = nI b ∧ cvP P i b ∧ 1 ≤ b ∧ b < 2 ^ pm P ∧ ∀ s, 1 ≤ s → s < 2 ^ pm P → 2 ^ pm P - 1 - j < s → cvP P i s → pcn b < pcn s ∨ (pcn b = pcn s ∧ b ≤ s)) (fun R => ∃ n, R = nI n ∧ fwR P i n) (2 ^ pm P - 1) ?_ ?_ ⟨rfl, _, rfl, v1, by omega, by omega, fun s h1 h2 h3 => by omega⟩
  · intro j s hj ⟨a1, b, a2, a3, a4, a5, a6⟩
    obtain ⟨S, hS⟩ : ∃ S, S = 2 ^ pm P - 1 - j := ⟨_, rfl⟩
    rw [← hS] at a1 a6
    have hS1 : 1 ≤ S := by omega
    have hS2 : S < 2 ^ pm P := by omega
    have p1 := hpc S (by omega)
    have p2 := hpc b (by omega)
    have hnx : nI S + (-1 : Int32) = nI (2 ^ pm P - 1 - (j + 1)) := by rw [nJ_p, nJ_pp (by omega), show S - 1 = 2 ^ pm P - 1 - (j + 1) by omega]
    unfold wX0_fewestEdits_60
    rw [a1, if_neg (fun q => by have := (nle0 (n := S) (by omega)).mp q; omega), e_has (by omega), Option.bind_some]
    by_cases q : cvP P i S
    · have hf : fb F S = false := by
        rw [← Bool.not_eq_true]
        exact fun e => ((hF S (by omega)).mp e) q
      rw [hf, if_pos (show (if false = true then (1 : Int32) else 0) = 0 by decide), e_bitCount (by omega), Option.bind_some, a2, e_bitCount (by omega), Option.bind_some, hnx]
      by_cases q2 : pcn b < pcn S
      · rw [if_pos ((nN_lt (by omega) (by omega)).mpr q2)]
        refine ⟨_, rfl, rfl, b, rfl, a3, a4, a5, fun s h1 h2 h3 h4 => ?_⟩
        by_cases e : s = S
        · rw [e]; exact Or.inl q2
        · exact a6 s h1 h2 (by omega) h4
      · rw [if_neg (fun e => q2 ((nN_lt (by omega) (by omega)).mp e))]
        refine ⟨_, rfl, rfl, S, rfl, q, hS1, hS2, fun s h1 h2 h3 h4 => ?_⟩
        by_cases e : s = S
        · rw [e]; exact Or.inr ⟨rfl, Nat.le_refl _⟩
        · have := a6 s h1 h2 (by omega) h4
          omega
    · have hf : fb F S = true := (hF S (by omega)).mpr q
      rw [hf, if_neg (show ¬ (if true = true then (1 : Int32) else 0) = 0 by decide), hnx]
      refine ⟨_, rfl, rfl, b, a2, a3, a4, a5, fun s h1 h2 h3 h4 => ?_⟩
      by_cases e : s = S
      · rw [e] at h4; exact absurd h4 q
      · exact a6 s h1 h2 (by omega) h4
  · intro s ⟨a1, b, a2, a3, a4, a5, a6⟩
    unfold wX0_fewestEdits_60
    rw [a1, Nat.sub_self, if_pos (show nI 0 ≤ 0 from Int32.le_refl _)]
    exact ⟨_, rfl, b, a2, a3, a4, a5, fun s h1 h2 h3 => a6 s h1 h2 (by omega) h3⟩
theorem e_fewest (hO : pOK P) (hP : cP P g) (hE : cE P g) (hF : lF P 33554432 g) {i : Nat} (hi : i < nB P) : ∃ R, nX0_fewestEdits (nI i) g = some R ∧ ∃ n, R = nI n ∧ fwR P i n := by
  have h5 := hO.1
  obtain ⟨b1, b2, b3⟩ := bX_spec hi
  obtain ⟨k1, k2, k3⟩ := gK_spec b2
  unfold nX0_fewestEdits
  rw [hP.1, show nI (pn P) - (1 : Int32) = nJ (pn P) from rfl]
  refine wh_up (fun j (s : Int64 × Int32) => s.2 = nJ (pn P - j) ∧ ∀ x, x < 64 → (fb s.1 x = true ↔ cuP P (bk (bX P i)) (pn P - j) x)) (fun R => ∃ n, R = nI n ∧ fwR P i n) (pn P) ?_ ?_ ⟨rfl, fun x hx => ?_⟩
  · intro j s hj ⟨a1, a2⟩
    obtain ⟨f, hf⟩ : ∃ f, f + 1 = pn P - j := ⟨pn P - j - 1, by omega⟩
    rw [← hf] at a1 a2
    unfold wX0_fewestEdits_13
    rw [a1, nJ_s, if_neg (nI_nn (by omega)), e_setOf hO hF hi (by omega), Option.bind_some, e_aheadOf hO hP hE _ (by omega), Option.bind_some, nJ_p]
    refine ⟨_, rfl, by rw [show f = pn P - (j + 1) by omega], fun x hx => ?_⟩
    rw [show pn P - (j + 1) = f by omega, cuP_s (by omega) (k3.1 f (by omega)).2]
    dsimp only
    rw [afN_bit _ _ _ _ hx, anN_iff]
    constructor
    · rintro ⟨v, hv, hq⟩
      rw [Bool.and_eq_true] at hq
      exact ⟨v, hv, hq.1, (a2 _ (Nat.lt_of_le_of_lt Nat.and_le_left hx)).mp hq.2⟩
    · rintro ⟨v, hv, h1, h2⟩
      refine ⟨v, hv, ?_⟩
      rw [Bool.and_eq_true]
      exact ⟨h1, (a2 _ (Nat.lt_of_le_of_lt Nat.and_le_left hx)).mpr h2⟩
  · intro s ⟨a1, a2⟩
    rw [Nat.sub_self] at a1 a2
    unfold wX0_fewestEdits_13
    rw [a1, if_pos (show nJ 0 < 0 by decide), e_allEdits hO hP, Option.bind_some, Option.bind_some]
    obtain ⟨R, w, e⟩ := e_few60 (g := g) hO hi (F := s.1) (fun x hx => (a2 x hx).trans (cv_cu hO hi x))
    exact ⟨R, by rw [w]; rfl, e⟩
  · rw [Nat.sub_zero, cuP_n]
    show fb 1 x = true ↔ x = 0
    rw [fb_1 hx, beq_iff_eq]
end S25
