
/-! ===== steps: from ===== -/
section S25
variable {S S' : zSt} {g h k : zS} {P : zPl}
/-- the form x stands in the box -/
def inX (P : zPl) (i x : Nat) : Prop := ∀ f, f < 5 → (bk (bX P i) f).testBit (vo x f) = true
/-- every form of the box fails one of the edits s -/
def cvP (P : zPl) (i s : Nat) : Prop := ∀ x, x < 3125 → isF5 P x = true → inX P i x → fsM P x &&& s ≠ 0
theorem bx_form (hO : pOK P) {i : Nat} (hi : i < nB P) {a : Nat → Nat} (ha : inB (bk (bX P i)) 0 (pn P) a) : fno a (pn P) < 3125 ∧ isF5 P (fno a (pn P)) = true ∧ inX P i (fno a (pn P)) ∧ fsM P (fno a (pn P)) = fs P a := by
  have h5 := hO.1
  obtain ⟨b1, b2, b3⟩ := bX_spec hi
  obtain ⟨k1, k2, k3⟩ := gK_spec b2
  have hq : ∀ f, f < pn P → a f < pq P f := fun f hf => big_bit (k3.1 f hf).2 (ha f (Nat.zero_le _) hf)
  obtain ⟨f1, f2, f3⟩ := fno_form hO hq
  have hv := (vo_fno h5 (fun f hf => Nat.lt_of_lt_of_le (hq f hf) (hO.2.1 f hf).2.1)).2
  refine ⟨f1, f2, fun f hf => ?_, f3⟩
  rw [hv f hf]
  by_cases q : f < pn P
  · rw [if_pos q]; exact ha f (Nat.zero_le _) q
  · rw [if_neg q, k2 f (by omega) hf]
    rfl
theorem in_inB {i x : Nat} (h5 : pn P ≤ 5) (h : inX P i x) : inB (bk (bX P i)) 0 (pn P) (vo x) := fun f _ hf => h f (by omega)
theorem fs_bT {P : zPl} (hn : pn P ≠ 0) (a : Nat → Nat) (e : Nat) : (fs P a).testBit e = true ↔ tA P a 0 (pn P) e := by
  rw [fs_bit]
  constructor
  · intro h f _ hf
    rw [pT_bit, decide_eq_true h.1, h.2 f hf]; rfl
  · intro h
    refine ⟨?_, fun f hf => ?_⟩
    · have h1 := h 0 (Nat.le_refl 0) (by omega)
      rw [pT_bit, Bool.and_eq_true, decide_eq_true_eq] at h1
      exact h1.1
    · have h1 := h f (Nat.zero_le f) hf
      rw [pT_bit, Bool.and_eq_true] at h1
      exact h1.2
theorem cv_cu (hO : pOK P) {i : Nat} (hi : i < nB P) (s : Nat) : cuP P (bk (bX P i)) 0 s ↔ ¬ cvP P i s := by
  have h5 := hO.1
  obtain ⟨b1, b2, b3⟩ := bX_spec hi
  obtain ⟨k1, k2, k3⟩ := gK_spec b2
  constructor
  · rintro ⟨a, ha, hn⟩ h
    obtain ⟨f1, f2, f3, f4⟩ := bx_form hO hi ha
    have q := h _ f1 f2 f3
    rw [f4] at q
    obtain ⟨e, he⟩ := ne0_bit q
    rw [Nat.testBit_and, Bool.and_eq_true] at he
    exact hn e he.2 ((fs_bT k1 a e).mp he.1)
  · intro h
    apply Classical.byContradiction
    intro q
    apply h
    intro x hx hf hin he
    apply q
    refine ⟨vo x, in_inB h5 hin, fun e hs hT => ?_⟩
    have e1 : fsM P x = fs P (vo x) := if_pos hf
    have := b_zero.mp he e
    rw [e1, Nat.testBit_and, hs, (fs_bT k1 (vo x) e).mpr hT] at this
    exact this rfl
theorem fs_lt2 (P : zPl) (a : Nat → Nat) : fs P a < 2 ^ pm P := bS_lt _ _
theorem cv_all (hO : pOK P) {i : Nat} (hi : i < nB P) : cvP P i (2 ^ pm P - 1) ∧ 1 ≤ pm P := by
  have h5 := hO.1
  obtain ⟨b1, b2, b3⟩ := bX_spec hi
  obtain ⟨k1, k2, k3⟩ := gK_spec b2
  constructor
  · intro x hx hf hin
    have e1 : fsM P x = fs P (vo x) := if_pos hf
    rw [e1, Nat.and_two_pow_sub_one_eq_mod, Nat.mod_eq_of_lt (fs_lt2 _ _)]
    exact k3.2.1 (vo x) (in_inB h5 hin)
  · apply Classical.byContradiction
    intro q
    have ha : ∃ a : Nat → Nat, ∀ f, f < pn P → (bk (bX P i) f).testBit (a f) = true := by
      refine ⟨fun f => @dite Nat (∃ e, (bk (bX P i) f).testBit e = true) (Classical.propDecidable _) (fun h => h.choose) (fun _ => 0), fun f hf => ?_⟩
      have h := ne0_bit (k3.1 f hf).1
      dsimp only
      rw [dif_pos h]
      exact h.choose_spec
    obtain ⟨a, ha⟩ := ha
    refine k3.2.1 a (fun f _ hf => ha f hf) ?_
    have := fs_lt2 P a
    have e : pm P = 0 := by omega
    rw [e] at this
    omega
/-- the fewest edits, the least of them -/
def fwR (P : zPl) (i R : Nat) : Prop := cvP P i R ∧ 1 ≤ R ∧ R < 2 ^ pm P ∧ ∀ s, 1 ≤ s → s < 2 ^ pm P → cvP P i s → pcn R < pcn s ∨ (pcn R = pcn s ∧ R ≤ s)
theorem fwR_uniq {i R R' : Nat} (h : fwR P i R) (h' : fwR P i R') : R = R' := by
  obtain ⟨a1, a2, a3, a4⟩ := h
  obtain ⟨b1, b2, b3, b4⟩ := h'
  have c1 := a4 R' b2 b3 b1
  have c2 := b4 R a2 a3 a1
  omega
theorem p6 (hO : pOK P) : 2 ^ pm P ≤ 64 := Nat.pow_le_pow_right (n := 2) (by omega) (show pm P ≤ 6 from hO.2.2.2.1)
end S25
