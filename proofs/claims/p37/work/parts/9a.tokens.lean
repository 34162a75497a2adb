
/-! ===== read: tokens ===== -/
section Tk
variable {g h k : zS} {tn : Nat} {tb : Nat → Nat}
def isLt (c : Nat) : Bool := decide (97 ≤ c) && decide (c ≤ 122)
def isDg (c : Nat) : Bool := decide (48 ≤ c) && decide (c ≤ 57)
def isBl (c : Nat) : Bool := c == 9 || c == 10 || c == 32
/-- how far a kind of bytes goes from p -/
def rn (tn : Nat) (tb : Nat → Nat) (c : Nat → Bool) (p : Nat) : Nat := fstB (fun i => !c (tb (p + i))) (tn - p)
theorem rn_le (c : Nat → Bool) (p : Nat) : rn tn tb c p ≤ tn - p := (fstB_spec _ _).1
theorem rn_in {c : Nat → Bool} {p i : Nat} (h : i < rn tn tb c p) : c (tb (p + i)) = true := by
  have := (fstB_spec (fun i => !c (tb (p + i))) (tn - p)).2.1 i h
  rw [Bool.not_eq_false'] at this
  exact this
theorem rn_end {c : Nat → Bool} {p : Nat} (h : p + rn tn tb c p < tn) : c (tb (p + rn tn tb c p)) = false := by
  have := (fstB_spec (fun i => !c (tb (p + i))) (tn - p)).2.2 (by unfold rn at h; omega)
  rw [Bool.not_eq_true'] at this
  exact this
theorem rn_pos {c : Nat → Bool} {p : Nat} (h : p < tn) : 0 < rn tn tb c p ↔ c (tb p) = true := by
  constructor
  · intro q
    have := rn_in q
    rw [Nat.add_zero] at this
    exact this
  · intro q
    apply Nat.pos_of_ne_zero
    intro e
    have := rn_end (tn := tn) (tb := tb) (c := c) (p := p) (by omega)
    rw [e, Nat.add_zero, q] at this
    cases this
def sk (tn : Nat) (tb : Nat → Nat) (p : Nat) : Nat := p + rn tn tb isBl p
def te (tn : Nat) (tb : Nat → Nat) (s : Nat) : Nat := if s < tn then (if isLt (tb s) then s + rn tn tb isLt s else if isDg (tb s) then s + rn tn tb isDg s else s + 1) else s
theorem sk_le {p : Nat} (h : p ≤ tn) : p ≤ sk tn tb p ∧ sk tn tb p ≤ tn := by
  have := rn_le (tn := tn) (tb := tb) isBl p
  unfold sk
  omega
theorem te_le {s : Nat} (h : s ≤ tn) : s ≤ te tn tb s ∧ te tn tb s ≤ tn ∧ (s < tn → s < te tn tb s) := by
  have h1 := rn_le (tn := tn) (tb := tb) isLt s
  have h2 := rn_le (tn := tn) (tb := tb) isDg s
  unfold te
  by_cases c : s < tn
  · rw [if_pos c]
    by_cases c1 : isLt (tb s) = true
    · rw [if_pos c1]
      have := (rn_pos c).mpr c1
      omega
    · rw [if_neg c1]
      by_cases c2 : isDg (tb s) = true
      · rw [if_pos c2]
        have := (rn_pos c).mpr c2
        omega
      · rw [if_neg c2]; omega
  · rw [if_neg c]; omega
/-- the byte at a place; -1 behind the end -/
def chr (tn : Nat) (tb : Nat → Nat) (p : Nat) : Int32 := if p < tn then nI (tb p) else -1
theorem e_at (hT : cTp tn tb g) (p : Nat) (hp : p < 2147483648) : nX9_at (nI p) g = some (chr tn tb p) := by
  obtain ⟨t1, t2, t3⟩ := hT
  unfold nX9_at chr
  rw [if_neg (nI_nn hp), t1]
  by_cases c : p < tn
  · rw [if_pos ((nN_lt hp (by omega)).mpr c), if_pos c, zchk_t (zin_nI (by omega) (by omega)), nI_cl (by omega), (t3 p c).1]
  · rw [if_neg (fun e => c ((nN_lt hp (by omega)).mp e)), if_neg c]
theorem chr_lt (hT : cTp tn tb g) {p : Nat} (h : p < tn) : tb p < 256 := (hT.2.2 p h).2
theorem e_isLetter {c : Nat} (h : c < 256) : nX7_isLetter (nI c) = some (if isLt c then 1 else 0) := by
  unfold nX7_isLetter isLt
  by_cases c1 : 97 ≤ c
  · rw [if_neg (show ¬ nI c < (97 : Int32) from fun e => by have := (nN_lt (b := 97) (by omega) (by omega)).mp e; omega)]
    by_cases c2 : c ≤ 122
    · rw [if_neg (show ¬ (122 : Int32) < nI c from fun e => by have := (nN_lt (a := 122) (by omega) (by omega)).mp e; omega), decide_eq_true c1, decide_eq_true c2]; rfl
    · rw [if_pos (show (122 : Int32) < nI c from (nN_lt (a := 122) (by omega) (by omega)).mpr (by omega)), decide_eq_false c2, Bool.and_false, if_neg (by decide)]
  · rw [if_pos (show nI c < (97 : Int32) from (nN_lt (b := 97) (by omega) (by omega)).mpr (by omega)), decide_eq_false c1, Bool.false_and, if_neg (by decide)]
theorem e_isDigit {c : Nat} (h : c < 256) : nX7_isDigit (nI c) = some (if isDg c then 1 else 0) := by
  unfold nX7_isDigit isDg
  by_cases c1 : 48 ≤ c
  · rw [if_neg (show ¬ nI c < (48 : Int32) from fun e => by have := (nN_lt (b := 48) (by omega) (by omega)).mp e; omega)]
    by_cases c2 : c ≤ 57
    · rw [if_neg (show ¬ (57 : Int32) < nI c from fun e => by have := (nN_lt (a := 57) (by omega) (by omega)).mp e; omega), decide_eq_true c1, decide_eq_true c2]; rfl
    · rw [if_pos (show (57 : Int32) < nI c from (nN_lt (a := 57) (by omega) (by omega)).mpr (by omega)), decide_eq_false c2, Bool.and_false, if_neg (by decide)]
  · rw [if_pos (show nI c < (48 : Int32) from (nN_lt (b := 48) (by omega) (by omega)).mpr (by omega)), decide_eq_false c1, Bool.false_and, if_neg (by decide)]
theorem e_isBlank {c : Nat} (h : c < 256) : nX7_isBlank (nI c) = some (if isBl c then 1 else 0) := by
  have : ∀ c, c < 256 → nX7_isBlank (nI c) = some (if isBl c then 1 else 0) := by
    intro c hc
    unfold nX7_isBlank isBl
    by_cases c1 : c = 9
    · rw [if_pos (by rw [c1]; rfl), c1]; rfl
    · rw [if_neg (show ¬ nI c = (9 : Int32) from fun e => c1 ((nN_eq (b := 9) (by omega) (by omega)).mp e))]
      by_cases c2 : c = 10
      · rw [if_pos (by rw [c2]; rfl), c2]; rfl
      · rw [if_neg (show ¬ nI c = (10 : Int32) from fun e => c2 ((nN_eq (b := 10) (by omega) (by omega)).mp e))]
        by_cases c3 : c = 32
        · rw [if_pos (by rw [c3]; rfl), c3]; rfl
        · rw [if_neg (show ¬ nI c = (32 : Int32) from fun e => c3 ((nN_eq (b := 32) (by omega) (by omega)).mp e)), if_neg]
          rw [Bool.or_eq_true, Bool.or_eq_true, beq_iff_eq, beq_iff_eq, beq_iff_eq]
          omega
  exact this c h
theorem lt_m1 : nX7_isLetter (-1) = some 0 := by unfold nX7_isLetter; rw [if_pos (by decide)]
theorem dg_m1 : nX7_isDigit (-1) = some 0 := by unfold nX7_isDigit; rw [if_pos (by decide)]
theorem cTp_mw {W : Nat → Nat → Prop} (q : ∀ c k, W c k → c ≠ 1 ∧ c ≠ 2) (a : mw W g h) (p : cTp tn tb g) : cTp tn tb h := cTp_eq (funext fun k => a.1 1 k (fun w => (q _ _ w).1 rfl)) (funext fun k => a.1 2 k (fun w => (q _ _ w).2 rfl)) p
/-- a loop that moves a place on while a kind of bytes goes on -/
theorem wh_run {R : Type} {step : zS → Option (zS ⊕ R)} (i : Nat) (c : Nat → Bool) (Q : R → Prop) {p : Nat} (hp : p ≤ tn) (hT : cTp tn tb g) (h0 : g.1 19 i = nI p) (hgo : ∀ s q, cTp tn tb s → mw (fun c k => c = 19 ∧ k = i) g s → s.1 19 i = nI q → q < tn → c (tb q) = true → step s = some (.inl (zi s 19 i (nI (q + 1))))) (hst : ∀ s, cTp tn tb s → mw (fun c k => c = 19 ∧ k = i) g s → s.1 19 i = nI (p + rn tn tb c p) → (p + rn tn tb c p < tn → c (tb (p + rn tn tb c p)) = false) → ∃ r, step s = some (.inr r) ∧ Q r) : ∃ r, wh step g = some r ∧ Q r := by
  have hl := rn_le (tn := tn) (tb := tb) c p
  refine wh_up (fun j s => s.1 19 i = nI (p + j) ∧ mw (fun c k => c = 19 ∧ k = i) g s) Q (rn tn tb c p) ?_ ?_ ⟨h0, mw_rfl _⟩
  · intro j s hj ⟨a1, a2⟩
    have hTs := cTp_mw (fun c k q => by omega) a2 hT
    refine ⟨_, hgo s (p + j) hTs a2 a1 (by omega) (rn_in hj), zi_at _ _ _ _, mw_tr a2 (mw_zi ⟨rfl, rfl⟩ _ _)⟩
  · intro s ⟨a1, a2⟩
    have hTs := cTp_mw (fun c k q => by omega) a2 hT
    exact hst s hTs a2 a1 (fun q => rn_end q)
theorem chr_in {p : Nat} (h : p < tn) : chr tn tb p = nI (tb p) := if_pos h
theorem chr_out {p : Nat} (h : ¬ p < tn) : chr tn tb p = -1 := if_neg h
/-- the class stands at a token -/
def tkA (tn : Nat) (tb : Nat → Nat) (s : Nat) (g : zS) : Prop := cTp tn tb g ∧ s ≤ tn ∧ g.1 19 2 = nI s ∧ g.1 19 3 = nI (te tn tb s)
theorem e_next52 {s : Nat} (hs : s ≤ tn) (hT : cTp tn tb g) (h2 : g.1 19 2 = nI s) : ∃ h, jX7_next_52 g = some h ∧ tkA tn tb s h ∧ mw (fun c k => c = 19 ∧ k = 3) g h := by
  have t2 := hT.2.1
  obtain ⟨z, ez⟩ : ∃ z, z = zi g 19 3 (nI s) := ⟨_, rfl⟩
  have z1 : mw (fun c k => c = 19 ∧ k = 3) g z := by rw [ez]; exact mw_zi ⟨rfl, rfl⟩ _ _
  have zT := cTp_mw (fun c k q => by omega) z1 hT
  have zz2 : z.1 19 2 = nI s := by rw [ez, zi_else _ _ (by omega)]; exact h2
  have zz3 : z.1 19 3 = nI s := by rw [ez, zi_at]
  unfold jX7_next_52
  rw [h2, ← ez, zz2, e_at zT s (by omega), Option.bind_some]
  by_cases c : s < tn
  · have h256 := chr_lt hT c
    rw [chr_in c, e_isLetter h256, Option.bind_some]
    by_cases c1 : isLt (tb s) = true
    · rw [if_pos c1, if_neg n01]
      obtain ⟨r, w, e1, e2⟩ := wh_run (step := wX7_next_77) 3 isLt (fun r => r.1 19 3 = nI (s + rn tn tb isLt s) ∧ mw (fun c k => c = 19 ∧ k = 3) z r) hs zT zz3 (fun y q yT _ yq hq hc => by
        have := chr_lt yT hq
        unfold wX7_next_77
        rw [yT.1, yq, if_neg (fun e => by rw [nN_le (by omega) (by omega)] at e; omega), e_at yT q (by omega), Option.bind_some, chr_in hq, e_isLetter this, Option.bind_some, if_pos hc, if_neg n01, nI_s]) (fun y yT ym yq hc => by
        have hl := rn_le (tn := tn) (tb := tb) isLt s
        unfold wX7_next_77
        rw [yT.1, yq]
        by_cases d : tn ≤ s + rn tn tb isLt s
        · rw [if_pos ((nN_le (by omega) (by omega)).mpr d)]
          exact ⟨_, rfl, yq, ym⟩
        · have := chr_lt yT (show s + rn tn tb isLt s < tn by omega)
          rw [if_neg (fun e => d ((nN_le (by omega) (by omega)).mp e)), e_at yT _ (by omega), Option.bind_some, chr_in (by omega), e_isLetter this, Option.bind_some, hc (by omega), if_pos (show (if false = true then (1 : Int32) else 0) = 0 by decide)]
          exact ⟨_, rfl, yq, ym⟩)
      refine ⟨r, w, ⟨cTp_mw (fun c k q => by omega) e2 zT, hs, by rw [e2.1 19 2 (by omega)]; exact zz2, ?_⟩, mw_tr z1 e2⟩
      unfold te
      rw [if_pos c, if_pos c1]; exact e1
    · rw [if_neg c1, if_pos rfl, Option.bind_some, e_isDigit h256, Option.bind_some]
      by_cases c2 : isDg (tb s) = true
      · rw [if_pos c2, if_neg n01]
        obtain ⟨r, w, e1, e2⟩ := wh_run (step := wX7_next_138) 3 isDg (fun r => r.1 19 3 = nI (s + rn tn tb isDg s) ∧ mw (fun c k => c = 19 ∧ k = 3) z r) hs zT zz3 (fun y q yT _ yq hq hc => by
          have := chr_lt yT hq
          unfold wX7_next_138
          rw [yT.1, yq, if_neg (fun e => by rw [nN_le (by omega) (by omega)] at e; omega), e_at yT q (by omega), Option.bind_some, chr_in hq, e_isDigit this, Option.bind_some, if_pos hc, if_neg n01, nI_s]) (fun y yT ym yq hc => by
          have hl := rn_le (tn := tn) (tb := tb) isDg s
          unfold wX7_next_138
          rw [yT.1, yq]
          by_cases d : tn ≤ s + rn tn tb isDg s
          · rw [if_pos ((nN_le (by omega) (by omega)).mpr d)]
            exact ⟨_, rfl, yq, ym⟩
          · have := chr_lt yT (show s + rn tn tb isDg s < tn by omega)
            rw [if_neg (fun e => d ((nN_le (by omega) (by omega)).mp e)), e_at yT _ (by omega), Option.bind_some, chr_in (by omega), e_isDigit this, Option.bind_some, hc (by omega), if_pos (show (if false = true then (1 : Int32) else 0) = 0 by decide)]
            exact ⟨_, rfl, yq, ym⟩)
        refine ⟨r, w, ⟨cTp_mw (fun c k q => by omega) e2 zT, hs, by rw [e2.1 19 2 (by omega)]; exact zz2, ?_⟩, mw_tr z1 e2⟩
        unfold te
        rw [if_pos c, if_neg c1, if_pos c2]; exact e1
      · rw [if_neg c2, if_pos rfl, zT.1, if_neg (fun e => by rw [nN_le (by omega) (by omega)] at e; omega), zz3, nI_s]
        have m1 : mw (fun c k => c = 19 ∧ k = 3) z (zi z 19 3 (nI (s + 1))) := mw_zi ⟨rfl, rfl⟩ _ _
        refine ⟨_, rfl, ⟨cTp_mw (fun c k q => by omega) m1 zT, hs, by rw [zi_else _ _ (by omega)]; exact zz2, ?_⟩, mw_tr z1 m1⟩
        unfold te
        rw [if_pos c, if_neg c1, if_neg c2]; exact zi_at _ _ _ _
  · rw [chr_out c, lt_m1, Option.bind_some, if_pos rfl, Option.bind_some, dg_m1, Option.bind_some, if_pos rfl, zT.1, if_pos ((nN_le (by omega) (by omega)).mpr (by omega))]
    refine ⟨_, rfl, ⟨zT, hs, zz2, ?_⟩, z1⟩
    unfold te
    rw [if_neg c]; exact zz3
theorem e_next {e : Nat} (he : e ≤ tn) (hT : cTp tn tb g) (h3 : g.1 19 3 = nI e) : ∃ h, nX7_next g = some h ∧ tkA tn tb (sk tn tb e) h ∧ mw (fun c k => c = 19 ∧ (k = 2 ∨ k = 3)) g h := by
  have t2 := hT.2.1
  have z1 : mw (fun c k => c = 19 ∧ (k = 2 ∨ k = 3)) g (zi g 19 2 (nI e)) := mw_zi ⟨rfl, Or.inl rfl⟩ _ _
  have zT := cTp_mw (fun c k q => by omega) z1 hT
  have hsl := sk_le (tb := tb) he
  unfold nX7_next
  rw [h3]
  obtain ⟨r, w, e1, e2⟩ := wh_run (step := wX7_next_8) 2 isBl (fun r => tkA tn tb (sk tn tb e) r ∧ mw (fun c k => c = 19 ∧ (k = 2 ∨ k = 3)) (zi g 19 2 (nI e)) r) he zT (zi_at _ _ _ _) (fun y q yT _ yq hq hc => by
    have := chr_lt yT hq
    unfold wX7_next_8
    rw [yT.1, yq, if_neg (fun e => by rw [nN_le (by omega) (by omega)] at e; omega), e_at yT q (by omega), Option.bind_some, chr_in hq, e_isBlank this, Option.bind_some, if_pos hc, if_neg n01, nI_s]) (fun y yT ym yq hc => by
    have hl := rn_le (tn := tn) (tb := tb) isBl e
    obtain ⟨r, w, a1, a2⟩ := e_next52 (s := sk tn tb e) hsl.2 yT yq
    have a3 : mw (fun c k => c = 19 ∧ (k = 2 ∨ k = 3)) (zi g 19 2 (nI e)) r := mw_tr (mw_le (fun c k q => ⟨q.1, Or.inl q.2⟩) ym) (mw_le (fun c k q => ⟨q.1, Or.inr q.2⟩) a2)
    unfold wX7_next_8
    rw [yT.1, yq]
    by_cases d : tn ≤ e + rn tn tb isBl e
    · rw [if_pos ((nN_le (by omega) (by omega)).mpr d), w]
      exact ⟨_, rfl, a1, a3⟩
    · have := chr_lt yT (show e + rn tn tb isBl e < tn by omega)
      rw [if_neg (fun e => d ((nN_le (by omega) (by omega)).mp e)), e_at yT _ (by omega), Option.bind_some, chr_in (by omega), e_isBlank this, Option.bind_some, hc (by omega), if_pos (show (if false = true then (1 : Int32) else 0) = 0 by decide), w]
      exact ⟨_, rfl, a1, a3⟩)
  exact ⟨r, w, e1, mw_tr z1 e2⟩
end Tk
