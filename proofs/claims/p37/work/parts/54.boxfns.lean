
/-! ===== the class's boxes: values that can be used, sets that are closed, boxes that are greatest ===== -/
section Bx
variable {P : zPl} {g : zS} {B : Nat → Nat}
theorem lg_0 (a b : Int64) : lg_cmp a b = 0 ↔ a = b := by
  unfold lg_cmp
  by_cases h : a > b
  · rw [if_pos h]
    exact ⟨fun q => absurd q (by decide), fun q => by rw [q] at h; exact absurd h (Int64.lt_irrefl)⟩
  · rw [if_neg h]
    by_cases h2 : a = b
    · rw [if_pos h2]; exact ⟨fun _ => h2, fun _ => rfl⟩
    · rw [if_neg h2]; exact ⟨fun q => absurd q (by decide), fun q => absurd q h2⟩
/-- what the sets chosen ahead of a field leave open -/
def cO (P : zPl) (B : Nat → Nat) (f : Nat) (g : zS) : Prop := ∀ x, x < 64 → (fb (g.2.1 29 f) x = true ↔ opP P B f x)
/-- and with each value of that field -/
def cW (P : zPl) (B : Nat → Nat) (f : Nat) (g : zS) : Prop := ∀ v, v < pq P f → ∀ x, x < 64 → (fb (g.2.1 30 (f * 5 + v)) x = true ↔ owP P B f v x)
noncomputable def usB (P : zPl) (B : Nat → Nat) (f : Nat) : Nat := bS (fun v => dB (¬ owP P B f v 0)) (pq P f)
def k30 (c : Nat) : Bool := c == 30
theorem fb_all {F : Int64} : F = -1 ↔ ∀ x, x < 64 → fb F x = true := ⟨fun h x hx => by rw [h]; exact fb_m1 hx, fun h => fb_ext (fun x hx => by rw [h x hx, fb_m1 hx])⟩
theorem fb_none {F : Int64} : F = 0 ↔ ∀ x, x < 64 → fb F x = true → False := ⟨fun h x hx q => (by rw [h, fb_0] at q; cases q), fun h => fb_ext (fun x hx => by
  rw [fb_0]
  cases q : fb F x with
  | false => rfl
  | true => exact (h x hx q).elim)⟩
theorem met_ow (hO : pOK P) {f v : Nat} (h : cO P B f g) {x : Nat} (hx : x < 64) : fb (meN (g.2.1 29 f) (pT P f v) 6) x = true ↔ owP P B f v x := by
  rw [meN_bit _ _ 6 (Nat.le_refl 6) x hx, h _ (Nat.or_lt_two_pow (n := 6) hx (zmO_lt _ 6 (Nat.le_refl 6))), opP_met]
theorem e_meetValues (hO : pOK P) (hP : cP P g) (hE : cE P g) {f : Nat} (hf : f < pn P) (hF : cO P B f g) : ∃ h, nX0_meetValues (nI f) g = some (nI (usB P B f), h) ∧ fr k30 g h ∧ cW P B f h ∧ ∀ k, (k < f * 5 ∨ f * 5 + 5 ≤ k) → h.2.1 30 k = g.2.1 30 k := by
  have h5 := hO.1
  have hq := (hO.2.1 f hf).2.1
  unfold nX0_meetValues
  obtain ⟨⟨r1, r2⟩, w, q1, q2⟩ := wh_up (step := wX0_meetValues_4 (nI f)) (fun i (s : Int32 × Int32 × zS) => s.1 = nI (bS (fun v => dB (¬ owP P B f v 0)) i) ∧ s.2.1 = nI i ∧ fr k30 g s.2.2 ∧ (∀ v, v < i → ∀ x, x < 64 → (fb (s.2.2.2.1 30 (f * 5 + v)) x = true ↔ owP P B f v x)) ∧ ∀ k, (k < f * 5 ∨ f * 5 + i ≤ k) → s.2.2.2.1 30 k = g.2.1 30 k) (fun r : Int32 × zS => r.1 = nI (usB P B f) ∧ fr k30 g r.2 ∧ cW P B f r.2 ∧ ∀ k, (k < f * 5 ∨ f * 5 + 5 ≤ k) → r.2.2.1 30 k = g.2.1 30 k) (pq P f) (fun i s hi hI => by
    obtain ⟨i1, i2, i3, i4, i5⟩ := hI
    obtain ⟨s0, s1, s2⟩ := s
    dsimp only at i1 i2 i3 i4 i5
    have hP2 := cP_fr (K := k30) ⟨rfl, rfl, rfl, rfl, rfl, rfl, rfl⟩ i3 hP
    have hE2 := cE_fr (K := k30) rfl i3 hE
    have h29 : s2.2.1 29 = g.2.1 29 := (i3.1 29 rfl).2
    have hF2 : cO P B f s2 := by unfold cO at hF ⊢; rw [h29]; exact hF
    dsimp only [wX0_meetValues_4]
    rw [zchk_t (zin_nI (by omega) (by omega)), nI_cl (by omega), i2, hP2.2.1 f hf, if_neg (by rw [nN_le (by omega) (by omega)]; omega), zchk_t (zin_nI (by omega) (by omega)), e_editsOfValue hO hE2 hf hi, Option.bind_some, e_met, Option.bind_some, show (5 : Int32) = nI 5 from rfl, nI_mul, nN_add, zchk_t (zin_nI (by omega) (by omega)), nI_cl (by omega), nI_s]
    have hw : ∀ x, x < 64 → (fb (meN (s2.2.1 29 f) (pT P f i) 6) x = true ↔ owP P B f i x) := fun x hx => met_ow hO hF2 hx
    generalize meN (s2.2.1 29 f) (pT P f i) 6 = v2 at hw
    have hz4 : ∀ v, v < i + 1 → ∀ x, x < 64 → (fb ((zl s2 30 (f * 5 + i) v2).2.1 30 (f * 5 + v)) x = true ↔ owP P B f v x) := fun v hv x hx => by
      by_cases q : v = i
      · rw [q, zl_at]; exact hw x hx
      · rw [zl_else _ _ (fun e => absurd e.2 (by omega))]; exact i4 v (by omega) x hx
    have hz5 : ∀ k, (k < f * 5 ∨ f * 5 + (i + 1) ≤ k) → (zl s2 30 (f * 5 + i) v2).2.1 30 k = g.2.1 30 k := fun k hk => by
      rw [zl_else _ _ (fun e => absurd e.2 (by omega))]; exact i5 k (by omega)
    by_cases c : lg_cmp v2 (-1) = 0
    · have h0 : owP P B f i 0 := (hw 0 (by omega)).mp (fb_all.mp ((lg_0 _ _).mp c) 0 (by omega))
      rw [if_pos c]
      refine ⟨_, rfl, ?_, rfl, fr_tr i3 (fr_zl rfl _ _ _), hz4, hz5⟩
      dsimp only
      rw [i1, bS_s, dB_f.mpr (fun q => q h0), if_neg (by decide)]
    · have h0 : ¬ owP P B f i 0 := fun q => c ((lg_0 _ _).mpr (fb_all.mpr (fun x hx => (hw x hx).mpr (owP_0 q))))
      rw [if_neg c]
      refine ⟨_, rfl, ?_, rfl, fr_tr i3 (fr_zl rfl _ _ _), hz4, hz5⟩
      dsimp only
      rw [i1, bS_s, dB_t.mpr h0, if_pos rfl, nI_shl (by omega), nI_or]) (fun s hI => by
    obtain ⟨i1, i2, i3, i4, i5⟩ := hI
    obtain ⟨s0, s1, s2⟩ := s
    dsimp only at i1 i2 i3 i4 i5
    have hP2 := cP_fr (K := k30) ⟨rfl, rfl, rfl, rfl, rfl, rfl, rfl⟩ i3 hP
    dsimp only [wX0_meetValues_4]
    rw [zchk_t (zin_nI (by omega) (by omega)), nI_cl (by omega), i2, hP2.2.1 f hf, if_pos (Int32.le_refl _)]
    exact ⟨_, rfl, i1, i3, i4, fun k hk => i5 k (by omega)⟩) (s := ((0 : Int32), (0 : Int32), g)) ⟨rfl, rfl, fr_rfl _ _, fun v hv => absurd hv (Nat.not_lt_zero v), fun _ _ => rfl⟩
  dsimp only at q1 q2
  subst q1
  exact ⟨r2, w, q2⟩
/-- the families of the values of a set -/
def jnN (g : zS) (f S n : Nat) : Int64 := foN (fun v a => if S.testBit v then a ||| g.2.1 30 (f * 5 + v) else a) n 0
theorem jnN_s (g : zS) (f S n : Nat) : jnN g f S (n + 1) = if S.testBit n then jnN g f S n ||| g.2.1 30 (f * 5 + n) else jnN g f S n := rfl
theorem e_joined (hO : pOK P) (hP : cP P g) {f S : Nat} (hf : f < pn P) : nX0_joined (nI f) (nI S) g = some (jnN g f S (pq P f)) := by
  have h5 := hO.1
  have hq := (hO.2.1 f hf).2.1
  unfold nX0_joined
  refine wh_seq (fun i => (jnN g f S i, nI i)) (pq P f) (fun i hi => ?_) ?_
  · dsimp only [wX0_joined_5]
    rw [zchk_t (zin_nI (by omega) (by omega)), nI_cl (by omega), hP.2.1 f hf, if_neg (by rw [nN_le (by omega) (by omega)]; omega), nI_s, jnN_s, show (5 : Int32) = nI 5 from rfl, nI_mul, nN_add]
    cases h : S.testBit i with
    | true => rw [if_neg (fun q => by rw [(nI_bitg (by omega)).mp q] at h; cases h), if_pos rfl, zchk_t (zin_nI (by omega) (by omega)), nI_cl (by omega)]
    | false => rw [if_pos ((nI_bitg (by omega)).mpr h), if_neg (by decide)]
  · dsimp only [wX0_joined_5]
    rw [zchk_t (zin_nI (by omega) (by omega)), nI_cl (by omega), hP.2.1 f hf, if_pos (Int32.le_refl _)]
    rfl
theorem jn_bit {f : Nat} (hW : cW P B f g) (hB : B f < 2 ^ pq P f) {x : Nat} (hx : x < 64) : fb (jnN g f (B f) (pq P f)) x = true ↔ opP P B (f + 1) x := by
  rw [opP_s hB]
  have h : ∀ n, n ≤ pq P f → (fb (jnN g f (B f) n) x = true ↔ ∃ v, v < n ∧ (B f).testBit v = true ∧ owP P B f v x) := by
    intro n
    induction n with
    | zero => intro _; exact ⟨fun q => (by rw [show jnN g f (B f) 0 = 0 from rfl, fb_0] at q; cases q), fun ⟨v, hv, _⟩ => absurd hv (Nat.not_lt_zero v)⟩
    | succ n ih =>
      intro hn
      rw [jnN_s]
      have hw := hW n (by omega) x hx
      cases h : (B f).testBit n with
      | true =>
        rw [if_pos rfl, fb_or, Bool.or_eq_true, ih (by omega), hw]
        constructor
        · rintro (⟨v, hv, h1⟩ | h1)
          · exact ⟨v, by omega, h1⟩
          · exact ⟨n, by omega, h, h1⟩
        · rintro ⟨v, hv, h1, h2⟩
          by_cases q : v = n
          · right; rw [← q]; exact h2
          · exact Or.inl ⟨v, by omega, h1, h2⟩
      | false =>
        rw [if_neg (by decide), ih (by omega)]
        constructor
        · rintro ⟨v, hv, h1⟩
          exact ⟨v, by omega, h1⟩
        · rintro ⟨v, hv, h1, h2⟩
          refine ⟨v, ?_, h1, h2⟩
          by_cases q : v = n
          · rw [q, h] at h1; cases h1
          · omega
  exact h _ (Nat.le_refl _)
/-- a set that every further value hurts -/
def cld (P : zPl) (B : Nat → Nat) (f : Nat) : Prop := ∀ v, v < pq P f → (B f).testBit v = false → ∃ x, x < 64 ∧ owP P B f v x ∧ ¬ opP P B (f + 1) x
theorem fb_not {F : Int64} {x : Nat} (hx : x < 64) : fb (F ^^^ (-1)) x = !fb F x := by
  rw [fb_xor, fb_m1 hx]
  cases fb F x <;> rfl
theorem e_isClosed (hO : pOK P) (hP : cP P g) {f : Nat} (hf : f < pn P) (hW : cW P B f g) (hB : B f < 2 ^ pq P f) : nX0_isClosed (nI f) (nI (B f)) g = some (if dB (cld P B f) then 1 else 0) := by
  have h5 := hO.1
  have hq := (hO.2.1 f hf).2.1
  unfold nX0_isClosed
  rw [e_joined hO hP hf, Option.bind_some]
  have hj := fun x hx => jn_bit (x := x) hW hB hx
  generalize jnN g f (B f) (pq P f) = J at hj
  have key := wh_fst (step := wX0_isClosed_10 (nI f) (nI (B f)) J g) (fun v => !(B f).testBit v && dB (∀ x, x < 64 → owP P B f v x → opP P B (f + 1) x)) (fun v => nI v) (pq P f) (fun _ => (0 : Int32)) (1 : Int32) (fun v hv hp => by
    dsimp only [wX0_isClosed_10]
    rw [zchk_t (zin_nI (by omega) (by omega)), nI_cl (by omega), hP.2.1 f hf, if_neg (by rw [nN_le (by omega) (by omega)]; omega), nI_s, show (5 : Int32) = nI 5 from rfl, nI_mul, nN_add]
    cases h : (B f).testBit v with
    | true => rw [if_neg (fun q => by rw [(nI_bitg (by omega)).mp q] at h; cases h)]
    | false =>
      rw [h] at hp
      have hp2 := dB_f.mp hp
      rw [if_pos ((nI_bitg (by omega)).mpr h), zchk_t (zin_nI (by omega) (by omega)), nI_cl (by omega), if_neg]
      intro c
      refine hp2 (fun x hx hw => ?_)
      have h1 := fb_none.mp ((lg_0 _ _).mp c) x hx
      rw [fb_and, (hW v hv x hx).mpr hw, Bool.true_and, fb_not hx] at h1
      cases h2 : fb J x with
      | true => exact (hj x hx).mp h2
      | false => rw [h2] at h1; exact (h1 rfl).elim) (fun v hv hp => by
    dsimp only [wX0_isClosed_10]
    rw [zchk_t (zin_nI (by omega) (by omega)), nI_cl (by omega), hP.2.1 f hf, if_neg (by rw [nN_le (by omega) (by omega)]; omega), nI_s, show (5 : Int32) = nI 5 from rfl, nI_mul, nN_add]
    cases h : (B f).testBit v with
    | true => rw [h] at hp; cases hp
    | false =>
      rw [h] at hp
      have hp2 := dB_t.mp hp
      rw [if_pos ((nI_bitg (by omega)).mpr h), zchk_t (zin_nI (by omega) (by omega)), nI_cl (by omega), if_pos]
      · rfl
      · refine (lg_0 _ _).mpr (fb_none.mpr (fun x hx q => ?_))
        rw [fb_and, Bool.and_eq_true, fb_not hx] at q
        rw [(hj x hx).mpr (hp2 x hx ((hW v hv x hx).mp q.1))] at q
        cases q.2) (by
    dsimp only [wX0_isClosed_10]
    rw [zchk_t (zin_nI (by omega) (by omega)), nI_cl (by omega), hP.2.1 f hf, if_pos (Int32.le_refl _)]
    rfl)
  rw [show (0 : Int32) = nI 0 from rfl, key]
  obtain ⟨a, b, c⟩ := fstB_spec (fun v => !(B f).testBit v && dB (∀ x, x < 64 → owP P B f v x → opP P B (f + 1) x)) (pq P f)
  generalize fstB (fun v => !(B f).testBit v && dB (∀ x, x < 64 → owP P B f v x → opP P B (f + 1) x)) (pq P f) = k at a b c
  by_cases q : k < pq P f
  · have h1 := c q
    rw [Bool.and_eq_true, dB_t] at h1
    rw [if_pos q, dB_f.mpr, if_neg (by decide)]
    · rfl
    · intro hc
      obtain ⟨x, hx, h2, h3⟩ := hc k q (by simpa using h1.1)
      exact h3 (h1.2 x hx h2)
  · rw [if_neg q, dB_t.mpr, if_pos rfl]
    intro v hv hb
    have h1 := b v (by omega)
    rw [hb] at h1
    have h2 := dB_f.mp (show dB (∀ x, x < 64 → owP P B f v x → opP P B (f + 1) x) = false from h1)
    refine Classical.byContradiction (fun q2 => h2 (fun x hx hw => Classical.byContradiction (fun q3 => q2 ⟨x, hx, hw, q3⟩)))
/-- each further value of a field lets a form of the box pass -/
def grP (P : zPl) (B : Nat → Nat) (f : Nat) : Prop := ∀ v, v < pq P f → (B f).testBit v = false → ∃ a : Nat → Nat, a f = v ∧ (∀ i, i < pn P → i ≠ f → (B i).testBit (a i) = true) ∧ fs P a = 0
theorem nJ_p (k : Nat) : nI k + (-1 : Int32) = nJ k := by
  unfold nJ
  rw [Int32.sub_eq_add_neg]
theorem nJ_pp {k : Nat} (h : 0 < k) : nJ k = nI (k - 1) := by
  obtain ⟨j, rfl⟩ := Nat.exists_eq_succ_of_ne_zero (by omega : k ≠ 0)
  exact nJ_s j
theorem e_isGreatest (hO : pOK P) (hP : cP P g) (hE : cE P g) (hX : ∀ f, f < pn P → g.1 28 f = nI (B f) ∧ B f < 2 ^ pq P f) (hW : ∀ f, f < pn P → cW P B f g) : nX0_isGreatest g = some (if dB (∀ f, f < pn P → grP P B f) then 1 else 0) := by
  have h5 := hO.1
  unfold nX0_isGreatest
  rw [hP.1]
  obtain ⟨r, w, q⟩ := wh_post (step := wX0_isGreatest_12 g) (fun s : Int64 × Int32 => ∃ j, j ≤ pn P ∧ s.2 = nJ j ∧ (∀ x, x < 64 → (fb s.1 x = true ↔ cuP P B j x)) ∧ ∀ f, j ≤ f → f < pn P → grP P B f) (fun s => (s.2 + 1).toNatClampNeg) (fun r => r = if dB (∀ f, f < pn P → grP P B f) then 1 else 0) (fun s hI => by
    obtain ⟨j, hj, i1, i2, i3⟩ := hI
    obtain ⟨s1, s2⟩ := s
    dsimp only at i1 i2 i3
    dsimp only [wX0_isGreatest_12]
    rw [i1]
    by_cases h0 : j = 0
    · rw [if_pos ((nJ_neg (by omega)).mpr h0), dB_t.mpr (fun f hf => i3 f (by omega) hf)]
      exact ⟨_, rfl, rfl⟩
    · rw [if_neg (fun q => h0 ((nJ_neg (by omega)).mp q))]
      obtain ⟨f, rfl⟩ := Nat.exists_eq_succ_of_ne_zero h0
      have hf : f < pn P := by omega
      have hq := (hO.2.1 f hf).2.1
      have hBf := (hX f hf).2
      have hB32 : B f < 32 := Nat.lt_of_lt_of_le hBf (Nat.pow_le_pow_right (n := 2) (by omega) hq)
      rw [Nat.succ_eq_add_one, nJ_s]
      have key := wh_fst (step := wX0_isGreatest_19 s1 (nI f) g) (fun v => !(B f).testBit v && !dB (∃ a : Nat → Nat, a f = v ∧ (∀ i, i < pn P → i ≠ f → (B i).testBit (a i) = true) ∧ fs P a = 0)) (fun v => nI v) (pq P f) (fun _ => (Sum.inr 0 : (Int64 × Int32) ⊕ Int32)) (Sum.inl (afN P s1 f (B f) (pq P f), nJ f)) (fun v hv hp => by
        dsimp only [wX0_isGreatest_19]
        rw [zchk_t (zin_nI (by omega) (by omega)), nI_cl (by omega), hP.2.1 f hf, if_neg (by rw [nN_le (by omega) (by omega)]; omega), zchk_t (zin_nI (by omega) (by omega)), (hX f hf).1, nI_s, show (5 : Int32) = nI 5 from rfl, nI_mul, nN_add]
        cases h : (B f).testBit v with
        | true => rw [if_neg (fun q => by rw [(nI_bitg (by omega)).mp q] at h; cases h)]
        | false =>
          rw [h] at hp
          have hp2 : dB (∃ a : Nat → Nat, a f = v ∧ (∀ i, i < pn P → i ≠ f → (B i).testBit (a i) = true) ∧ fs P a = 0) = true := by
            cases q : dB (∃ a : Nat → Nat, a f = v ∧ (∀ i, i < pn P → i ≠ f → (B i).testBit (a i) = true) ∧ fs P a = 0) with
            | true => rfl
            | false => rw [q] at hp; cases hp
          obtain ⟨x, hx, h1, h2⟩ := (ow_cu hO hf).mpr (dB_t.mp hp2)
          rw [if_pos ((nI_bitg (by omega)).mpr h), zchk_t (zin_nI (by omega) (by omega)), nI_cl (by omega), if_neg]
          intro c
          refine fb_none.mp ((lg_0 _ _).mp c) x hx ?_
          rw [fb_and, (hW f hf v hv x hx).mpr h1, (i2 x hx).mpr h2]; rfl) (fun v hv hp => by
        dsimp only [wX0_isGreatest_19]
        rw [zchk_t (zin_nI (by omega) (by omega)), nI_cl (by omega), hP.2.1 f hf, if_neg (by rw [nN_le (by omega) (by omega)]; omega), zchk_t (zin_nI (by omega) (by omega)), (hX f hf).1, nI_s, show (5 : Int32) = nI 5 from rfl, nI_mul, nN_add]
        rw [Bool.and_eq_true] at hp
        have h : (B f).testBit v = false := by simpa using hp.1
        have hp2 : dB (∃ a : Nat → Nat, a f = v ∧ (∀ i, i < pn P → i ≠ f → (B i).testBit (a i) = true) ∧ fs P a = 0) = false := by
          cases q : dB (∃ a : Nat → Nat, a f = v ∧ (∀ i, i < pn P → i ≠ f → (B i).testBit (a i) = true) ∧ fs P a = 0) with
          | false => rfl
          | true => rw [q] at hp; cases hp.2
        rw [if_pos ((nI_bitg (by omega)).mpr h), zchk_t (zin_nI (by omega) (by omega)), nI_cl (by omega), if_pos]
        · rfl
        · refine (lg_0 _ _).mpr (fb_none.mpr (fun x hx q => dB_f.mp hp2 ((ow_cu hO hf).mp ⟨x, hx, ?_⟩)))
          rw [fb_and, Bool.and_eq_true] at q
          exact ⟨(hW f hf v hv x hx).mp q.1, (i2 x hx).mp q.2⟩) (by
        dsimp only [wX0_isGreatest_19]
        rw [zchk_t (zin_nI (by omega) (by omega)), nI_cl (by omega), hP.2.1 f hf, if_pos (Int32.le_refl _), zchk_t (zin_nI (by omega) (by omega)), (hX f hf).1, e_aheadOf hO hP hE _ hf, Option.bind_some, nJ_p]
        rfl)
      rw [show (0 : Int32) = nI 0 from rfl, key]
      obtain ⟨a, b, c⟩ := fstB_spec (fun v => !(B f).testBit v && !dB (∃ a : Nat → Nat, a f = v ∧ (∀ i, i < pn P → i ≠ f → (B i).testBit (a i) = true) ∧ fs P a = 0)) (pq P f)
      generalize fstB (fun v => !(B f).testBit v && !dB (∃ a : Nat → Nat, a f = v ∧ (∀ i, i < pn P → i ≠ f → (B i).testBit (a i) = true) ∧ fs P a = 0)) (pq P f) = k at a b c
      by_cases q : k < pq P f
      · have h1 := c q
        rw [Bool.and_eq_true] at h1
        rw [if_pos q]
        refine ⟨_, rfl, ?_⟩
        have hng : ¬ ∀ f, f < pn P → grP P B f := fun hc => by
          rw [dB_t.mpr (hc f hf k q (by simpa using h1.1))] at h1
          cases h1.2
        rw [dB_f.mpr hng]
        rfl
      · rw [if_neg q]
        refine ⟨_, rfl, ⟨f, by omega, rfl, fun x hx => ?_, fun i hi hin => ?_⟩, ?_⟩
        · show fb (afN P s1 f (B f) (pq P f)) x = true ↔ _
          rw [afN_bit P _ _ _ hx, anN_iff, cuP_s hf hBf]
          constructor
          · rintro ⟨v, hv, h1⟩
            rw [Bool.and_eq_true] at h1
            exact ⟨v, hv, h1.1, (i2 _ (Nat.lt_of_le_of_lt Nat.and_le_left hx)).mp h1.2⟩
          · rintro ⟨v, hv, h1, h2⟩
            exact ⟨v, hv, by rw [h1, (i2 _ (Nat.lt_of_le_of_lt Nat.and_le_left hx)).mpr h2]; rfl⟩
        · by_cases q2 : i = f
          · intro v hv hb
            rw [q2] at hv hb ⊢
            have h1 := b v (by omega)
            rw [hb] at h1
            cases q3 : dB (∃ a : Nat → Nat, a f = v ∧ (∀ i, i < pn P → i ≠ f → (B i).testBit (a i) = true) ∧ fs P a = 0) with
            | true => exact dB_t.mp q3
            | false => rw [q3] at h1; cases h1
          · exact i3 i (by omega) hin
        · show (nJ f + 1).toNatClampNeg < (nI f + 1).toNatClampNeg
          rw [nJ_add, nI_s, nI_cl (by omega), nI_cl (by omega)]
          omega) ((1 : Int64), nI (pn P) - 1) ⟨pn P, Nat.le_refl _, rfl, fun x hx => by
    show fb 1 x = true ↔ _
    rw [fb_1 hx, cuP_n, beq_iff_eq], fun f h1 h2 => by omega⟩
  rw [w, q]
end Bx
