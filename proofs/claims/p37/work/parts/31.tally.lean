
/-! ===== the tallies ===== -/
section Ta
variable {P : zPl} {g : zS}
theorem e_fill {c n : Nat} (hn : n < 2147483648) (v : Int32) (g : zS) : ∃ h, nJ7_fill_53178 c n v g = some h ∧ (∀ x, x < n → h.1 c x = v) ∧ (∀ d, d ≠ c → h.1 d = g.1 d) ∧ h.2 = g.2 := by
  unfold nJ7_fill_53178
  refine wh_up (fun i (s : Int32 × zS) => s.1 = nI i ∧ (∀ x, x < i → s.2.1 c x = v) ∧ (∀ d, d ≠ c → s.2.1 d = g.1 d) ∧ s.2.2 = g.2) (fun (h : zS) => (∀ x, x < n → h.1 c x = v) ∧ (∀ d, d ≠ c → h.1 d = g.1 d) ∧ h.2 = g.2) n (fun i s hi hI => ?_) (fun s hI => ?_) ⟨rfl, fun x hx => absurd hx (Nat.not_lt_zero x), fun _ _ => rfl, rfl⟩
  · obtain ⟨h1, h2, h3, h4⟩ := hI
    dsimp only [wJ7_fill_53178_5]
    rw [h1, if_neg (by rw [nN_le (by omega) (by omega)]; omega), zchk_t (zin_nI hi (by omega)), nI_s, nI_cl (by omega)]
    refine ⟨_, rfl, rfl, fun x hx => ?_, fun d hd => ?_, h4⟩
    · by_cases q : x = i
      · subst q; exact zi_at _ _ _ _
      · exact (zi_else _ _ (fun e => q e.2)).trans (h2 x (by omega))
    · exact (zi_cell _ _ hd).trans (h3 d hd)
  · dsimp only [wJ7_fill_53178_5]
    rw [hI.1, if_pos (Int32.le_refl _)]
    exact ⟨_, rfl, hI.2⟩
/-- the cells of the two tallies -/
def kT (c : Nat) : Bool := c == 24 || c == 25
theorem fr_kT {b : Nat} (hb : b = 24 ∨ b = 25) {g h : zS} (h1 : ∀ d, d ≠ b → h.1 d = g.1 d) (h2 : h.2 = g.2) : fr kT g h := ⟨fun c hc => ⟨h1 c (fun q => by subst q; rcases hb with rfl | rfl <;> exact absurd hc (by decide)), by rw [h2]⟩, by rw [h2]; exact id, by rw [h2]⟩
theorem zsp_ne {g : zS} (h : g.2.2.1 ≤ 1) : zsp g 0 ≠ zsp g 1 := by
  unfold zsp
  generalize g.2.2.1 = f at h
  have hf : f = 0 ∨ f = 1 := by omega
  rcases hf with rfl | rfl <;> decide
theorem nI_sm0 {t : Nat} (h : nI t = 0) (p : Nat → Bool) : ∀ n, nI (sm (fun v => if p v then t else 0) n) = 0 := by
  intro n
  induction n with
  | zero => rfl
  | succ n ih =>
    rw [sm_s, ← nN_add, ih]
    cases p n with
    | true => rw [if_pos rfl, h]; rfl
    | false => rw [if_neg (by decide)]; rfl
/-- the next tally -/
def tlS (P : zPl) (f : Nat) (t : Nat → Nat) (y : Nat) : Nat := sm (fun x => sm (fun v => if x &&& pT P f v == y then t x else 0) (pq P f)) 64
theorem e_tallyField (hO : pOK P) (hP : cP P g) (hE : cE P g) (hG : g.2.2.1 ≤ 1) {f : Nat} (hf : f < pn P) {t : Nat → Nat} (ht : ∀ x, x < 64 → g.1 (zsp g 0) x = nI (t x)) : ∃ h, nX5_tallyField (nI f) g = some h ∧ (∀ y, y < 64 → h.1 (zsp h 0) y = nI (tlS P f t y)) ∧ fr kT g h := by
  have h5 := hO.1
  have h6 := p2m hO
  have hq := (hO.2.1 f hf).2.1
  have hne := zsp_ne hG
  have hb : zsp g 1 = 24 ∨ zsp g 1 = 25 := zsp_or g 1
  unfold nX5_tallyField
  obtain ⟨g1, k1, k2, k3, k4⟩ := e_fill (c := zsp g 1) (n := 64) (by omega) 0 g
  rw [k1]
  dsimp only [Option.bind_some]
  have hfr : ∀ {s : zS}, (∀ d, d ≠ zsp g 1 → s.1 d = g.1 d) → s.2 = g.2 → fr kT g s := fun a b => fr_kT hb a b
  refine wh_up (fun i (s : Int32 × zS) => s.1 = nI i ∧ (∀ y, y < 64 → s.2.1 (zsp g 1) y = nI (sm (fun x => sm (fun v => if x &&& pT P f v == y then t x else 0) (pq P f)) i)) ∧ (∀ d, d ≠ zsp g 1 → s.2.1 d = g.1 d) ∧ s.2.2 = g.2) _ 64 (fun i s hi hI => ?_) (fun s hI => ?_) ⟨rfl, fun y hy => k2 y hy, k3, k4⟩
  · obtain ⟨i1, i2, i3, i4⟩ := hI
    obtain ⟨s1, s2⟩ := s
    dsimp only at i1 i2 i3 i4
    have z0 : zsp s2 0 = zsp g 0 := by unfold zsp; rw [i4]
    dsimp only [wX5_tallyField_10]
    rw [i1, if_neg (by rw [show (64 : Int32) = nI 64 from rfl, nN_le (by omega) (by omega)]; omega), zchk_t (zin_nI hi (by omega)), nI_cl (by omega), z0, i3 _ hne, ht i hi]
    by_cases h0 : nI (t i) = 0
    · rw [if_pos h0, nI_s]
      refine ⟨_, rfl, rfl, fun y hy => ?_, i3, i4⟩
      dsimp only
      rw [i2 y hy, sm_s, ← nN_add (sm _ i) _, nI_sm0 h0 (fun v => i &&& pT P f v == y), Int32.add_zero]
    · rw [if_neg h0]
      have hwh := wh_up (step := wX5_tallyField_27 (nI f) (nI i)) (fun j (s : Int32 × zS) => s.1 = nI j ∧ (∀ y, y < 64 → s.2.1 (zsp g 1) y = nI (sm (fun x => sm (fun v => if x &&& pT P f v == y then t x else 0) (pq P f)) i + sm (fun v => if i &&& pT P f v == y then t i else 0) j)) ∧ (∀ d, d ≠ zsp g 1 → s.2.1 d = g.1 d) ∧ s.2.2 = g.2) (fun r => ∃ s' : Int32 × zS, r = Sum.inl s' ∧ s'.1 = nI (i + 1) ∧ (∀ y, y < 64 → s'.2.1 (zsp g 1) y = nI (sm (fun x => sm (fun v => if x &&& pT P f v == y then t x else 0) (pq P f)) (i + 1))) ∧ (∀ d, d ≠ zsp g 1 → s'.2.1 d = g.1 d) ∧ s'.2.2 = g.2) (pq P f) (fun j s hj hJ => ?_) (fun s hJ => ?_) (s := ((0 : Int32), s2)) ⟨rfl, fun y hy => by rw [sm_0, Nat.add_zero]; exact i2 y hy, i3, i4⟩
      · obtain ⟨r, w, s', hr, q⟩ := hwh
        exact ⟨s', by rw [w, hr], q⟩
      · obtain ⟨j1, j2, j3, j4⟩ := hJ
        obtain ⟨u1, u2⟩ := s
        dsimp only at j1 j2 j3 j4
        have z0 : zsp u2 0 = zsp g 0 := by unfold zsp; rw [j4]
        have z1 : zsp u2 1 = zsp g 1 := by unfold zsp; rw [j4]
        have hF := hfr j3 j4
        have hle : i &&& pT P f j < 64 := Nat.lt_of_le_of_lt Nat.and_le_left hi
        dsimp only [wX5_tallyField_27]
        rw [zchk_t (zin_nI (by omega) (by omega)), nI_cl (by omega), j1, (cP_fr ⟨rfl, rfl, rfl, rfl, rfl, rfl, rfl⟩ hF hP).2.1 f hf, if_neg (by rw [nN_le (by omega) (by omega)]; omega), e_editsOfValue hO (cE_fr rfl hF hE) hf hj]
        dsimp only [Option.bind_some]
        rw [nI_and, zchk_t (zin_nI hle (by omega)), zchk_t (zin_nI hi (by omega)), zchk_t (zin_nI hle (by omega)), nI_cl (by omega), nI_cl (by omega), z0, z1, j3 _ hne, ht i hi, j2 _ hle, nN_add, nI_s]
        refine ⟨_, rfl, rfl, fun y hy => ?_, fun d hd => ?_, j4⟩
        · dsimp only
          rw [sm_s]
          by_cases hy2 : y = i &&& pT P f j
          · subst hy2
            rw [zi_at, if_pos (beq_self_eq_true _), Nat.add_assoc]
          · rw [zi_else _ _ (fun e => hy2 e.2), j2 y hy, if_neg (fun e => hy2 (beq_iff_eq.mp e).symm), Nat.add_zero]
        · exact (zi_cell _ _ hd).trans (j3 d hd)
      · obtain ⟨j1, j2, j3, j4⟩ := hJ
        obtain ⟨u1, u2⟩ := s
        dsimp only at j1 j2 j3 j4
        have hF := hfr j3 j4
        dsimp only [wX5_tallyField_27]
        rw [zchk_t (zin_nI (by omega) (by omega)), nI_cl (by omega), j1, (cP_fr ⟨rfl, rfl, rfl, rfl, rfl, rfl, rfl⟩ hF hP).2.1 f hf, if_pos (Int32.le_refl _), nI_s]
        exact ⟨_, rfl, _, rfl, rfl, j2, j3, j4⟩
  · obtain ⟨i1, i2, i3, i4⟩ := hI
    obtain ⟨s1, s2⟩ := s
    dsimp only at i1 i2 i3 i4
    have hG2 : s2.2.2.1 ≤ 1 := by rw [i4]; exact hG
    dsimp only [wX5_tallyField_10]
    rw [i1, if_pos (show (64 : Int32) ≤ nI 64 from Int32.le_refl _), zchk_t (decide_eq_true hG2)]
    refine ⟨_, rfl, fun y hy => ?_, fr_tr (hfr i3 i4) (fr_zsw s2)⟩
    rw [(zsp_sw hG2).1]
    have z1 : zsp s2 1 = zsp g 1 := by unfold zsp; rw [i4]
    rw [z1]
    exact i2 y hy
end Ta
