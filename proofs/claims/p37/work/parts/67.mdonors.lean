
/-! ===== the reference: how far rows are, donors ===== -/
section Md
variable {P : zPl} {g : zS} {N : Nat} {r : Nat → Nat}
theorem m_unlikeBy (hO : pOK P) (hM : mP P g) {f a b : Nat} (hf : f < pn P) (ha : a ≤ pq P f) (hb : b ≤ pq P f) : nX11_unlikeBy (nI f) (nJ a) (nJ b) g = some (nI (unl P f a b)) := by
  have h5 := hO.1
  have h2 := hO.2.1 f hf
  obtain ⟨_, _, _, m4, m5, m6, _⟩ := hM
  have h17 : jX11_unlikeBy_17 (nI f) g = some (nI (if ps P f = 0 then 1 else pq P f)) := by
    unfold jX11_unlikeBy_17
    rw [zchk_t (zin_nI (by omega) (by omega)), zchk_t (zin_nI (by omega) (by omega)), nI_cl (by omega), m6 f hf, m4 f hf]
    by_cases c : ps P f = 0
    · rw [if_pos (by rw [c]; rfl), if_pos c]; rfl
    · rw [if_neg (fun q => c ((nN_eq0 (by omega)).mp q)), if_neg c]
  unfold nX11_unlikeBy unl
  by_cases hab : a = b
  · rw [if_pos ((nJ_eq (by omega) (by omega)).mpr hab), if_pos hab]; rfl
  rw [if_neg (fun q => hab ((nJ_eq (by omega) (by omega)).mp q)), if_neg hab]
  by_cases h0 : a = 0
  · rw [if_pos ((nJ_m1 (by omega)).mpr h0), h17]
    by_cases c : ps P f = 0
    · rw [if_pos c, if_pos c]
    · rw [if_neg c, if_neg c, if_pos (Or.inl h0)]
  rw [if_neg (fun q => h0 ((nJ_m1 (by omega)).mp q))]
  by_cases h1 : b = 0
  · rw [if_pos ((nJ_m1 (by omega)).mpr h1), h17]
    by_cases c : ps P f = 0
    · rw [if_pos c, if_pos c]
    · rw [if_neg c, if_neg c, if_pos (Or.inr h1)]
  rw [if_neg (fun q => h1 ((nJ_m1 (by omega)).mp q)), zchk_t (zin_nI (by omega) (by omega)), nI_cl (by omega), m6 f hf]
  by_cases c : ps P f = 0
  · rw [if_pos (by rw [c]; rfl), if_pos c]; rfl
  · rw [if_neg (fun q => c ((nN_eq0 (by omega)).mp q)), if_neg c, if_neg (fun q : a = 0 ∨ b = 0 => q.elim h0 h1)]
    have hd : ∀ a, a < 6 → ∀ b, b < 6 → (if nJ a ≤ nJ b then some (nJ b - nJ a) else some (nJ a - nJ b)) = some (nI (if a < b then b - a else a - b)) := by decide
    exact hd a (by omega) b (by omega)
theorem m_farBy (hO : pOK P) (hM : mP P g) (hR : mR P N r g) {i o S : Nat} (hi : i < N) (ho : o < N) (hS : S < 32) : nX11_farBy (nI i) (nI o) (nI S) g = some (nI (far P (r i) (r o) S (pn P))) := by
  have h5 := hO.1
  unfold nX11_farBy
  refine wh_seq (fun f => (nI (far P (r i) (r o) S f), nI f)) (pn P) (fun f hf => ?_) ?_
  · dsimp only [wX11_farBy_6]
    have e : far P (r i) (r o) S (f + 1) = if S.testBit f then far P (r i) (r o) S f else far P (r i) (r o) S f + pw P f * unl P f (rv (r i) f) (rv (r o) f) := rfl
    rw [hM.1, if_neg (by rw [nN_le (by omega) (by omega)]; omega), m_has (by omega) (by omega), Option.bind_some, nI_s, e]
    cases hb : S.testBit f with
    | true => rw [if_neg (show ¬ (if true = true then (1 : Int32) else 0) = 0 by decide), if_pos rfl]
    | false =>
      rw [if_pos (show (if false = true then (1 : Int32) else 0) = 0 by decide), if_neg (by decide), zchk_t (zin_nI (by omega) (by omega)), m_of hR h5 hi hf, Option.bind_some, m_of hR h5 ho hf, Option.bind_some, m_unlikeBy hO hM hf ((hR.2.2 i hi).2.2.1 f hf) ((hR.2.2 o ho).2.2.1 f hf), Option.bind_some, nI_cl (by omega), hM.2.2.2.2.1 f hf, nI_mul, nN_add]
  · dsimp only [wX11_farBy_6]
    rw [hM.1, if_pos (Int32.le_refl _)]
    rfl
/-- the number of the form that a row is with a donor's answers -/
def bF (P : zPl) (c d S : Nat) : Nat := fno (fun f => rv (bld c d S) f - 1) (pn P)
/-- the reference's donors -/
def mD (P : zPl) (N : Nat) (r : Nat → Nat) (i : Nat) (s : zDn) (g : zS) : Prop := g.1 42 42 = nI s.1 ∧ ∀ k, k < s.1 → g.1 66 k = nI (s.2.1 k) ∧ s.2.1 k < N ∧ g.1 67 k = nI (s.2.2 k) ∧ s.2.2 k ≤ 225 ∧ g.1 68 k = nI (bF P (r i) (r (s.2.1 k)) (ls P (r i)))
theorem sc_66 {k : Nat} : scB 66 k = true := rfl
theorem m_insert {s : zDn} {i : Nat} (hD : mD P N r i s g) (hn : s.1 < 40) {o x : Nat} (ho : o < N) (hN : N ≤ 40) (hx : x ≤ 225) (b1 b2 : Int32) : ∃ h, wh (wX11_laysDonors_172 b1 b2 (nI o) (nI (bF P (r i) (r o) (ls P (r i)))) (nI x)) (g.1 42 42, g) = some (.inl (nI (o + 1), h)) ∧ sc g h ∧ h.1 42 0 = g.1 42 0 ∧ mD P N r i (dIns s o x) h := by
  obtain ⟨d1, d2⟩ := hD
  obtain ⟨n, od, fa⟩ := s
  dsimp only at d1 d2 hn
  rw [d1]
  generalize hfm : bF P (r i) (r o) (ls P (r i)) = fm
  have hfd : ∀ {k}, k < n → g.1 68 k = nI ((fun k => bF P (r i) (r (od k)) (ls P (r i))) k) := fun hk => (d2 _ hk).2.2.2.2
  generalize hfo : (fun k => bF P (r i) (r (od k)) (ls P (r i))) = fo at hfd
  obtain ⟨rr, w, h, q0, q1, q8, p, q2, q3, q4, q5, q6, q7⟩ := wh_post (step := wX11_laysDonors_172 b1 b2 (nI o) (nI fm) (nI x)) (fun s : Int32 × zS => ∃ p, p ≤ n ∧ s.1 = nI p ∧ (∀ k, k < p → s.2.1 66 k = nI (od k) ∧ s.2.1 67 k = nI (fa k) ∧ s.2.1 68 k = nI (fo k)) ∧ (∀ k, p < k → k ≤ n → s.2.1 66 k = nI (od (k - 1)) ∧ s.2.1 67 k = nI (fa (k - 1)) ∧ s.2.1 68 k = nI (fo (k - 1))) ∧ (∀ k, p ≤ k → k < n → x < fa k) ∧ s.2.1 42 42 = nI n ∧ sc g s.2 ∧ s.2.1 42 0 = g.1 42 0) (fun s => s.1.toNatClampNeg) (fun rr => ∃ h, rr = Sum.inl (nI (o + 1), h) ∧ sc g h ∧ h.1 42 0 = g.1 42 0 ∧ ∃ p, p ≤ n ∧ (∀ k, k < p → h.1 66 k = nI (od k) ∧ h.1 67 k = nI (fa k) ∧ h.1 68 k = nI (fo k)) ∧ (h.1 66 p = nI o ∧ h.1 67 p = nI x ∧ h.1 68 p = nI fm) ∧ (∀ k, p < k → k ≤ n → h.1 66 k = nI (od (k - 1)) ∧ h.1 67 k = nI (fa (k - 1)) ∧ h.1 68 k = nI (fo (k - 1))) ∧ ipN fa x n = p ∧ h.1 42 42 = nI (n + 1)) (fun s hJ => by
    obtain ⟨p, hp, j1, j2, j3, j4, j5, j6, j7⟩ := hJ
    obtain ⟨u1, u2⟩ := s
    dsimp only at j1 j2 j3 j5 j6 j7
    have fin : (p = 0 ∨ ¬ x < fa (p - 1)) → ∃ rr, (zex (jX11_laysDonors_245 b1 b2 (nI o) (nI fm) (nI x) u1 u2) : Option ((Int32 × zS) ⊕ ((Int32 × zS) ⊕ zS))) = some (Sum.inr rr) ∧ ∃ h, rr = Sum.inl (nI (o + 1), h) ∧ sc g h ∧ h.1 42 0 = g.1 42 0 ∧ ∃ p, p ≤ n ∧ (∀ k, k < p → h.1 66 k = nI (od k) ∧ h.1 67 k = nI (fa k) ∧ h.1 68 k = nI (fo k)) ∧ (h.1 66 p = nI o ∧ h.1 67 p = nI x ∧ h.1 68 p = nI fm) ∧ (∀ k, p < k → k ≤ n → h.1 66 k = nI (od (k - 1)) ∧ h.1 67 k = nI (fa (k - 1)) ∧ h.1 68 k = nI (fo (k - 1))) ∧ ipN fa x n = p ∧ h.1 42 42 = nI (n + 1) := fun hq => by
      unfold jX11_laysDonors_245
      rw [j1, zchk_t (zin_nI (by omega) (by omega)), zchk_t (zin_nI (by omega) (by omega)), zchk_t (zin_nI (by omega) (by omega)), nI_cl (by omega), nI_s]
      have a1 : ∀ k, (zi (zi (zi u2 66 p (nI o)) 67 p (nI x)) 68 p (nI fm)).1 66 k = if k = p then nI o else u2.1 66 k := fun k => by
        rw [zi_cell _ _ (show 66 ≠ 68 by decide), zi_cell _ _ (show 66 ≠ 67 by decide)]
        by_cases q : k = p
        · rw [q, zi_at, if_pos rfl]
        · rw [zi_else _ _ (fun e => q e.2), if_neg q]
      have a2 : ∀ k, (zi (zi (zi u2 66 p (nI o)) 67 p (nI x)) 68 p (nI fm)).1 67 k = if k = p then nI x else u2.1 67 k := fun k => by
        rw [zi_cell _ _ (show 67 ≠ 68 by decide)]
        by_cases q : k = p
        · rw [q, zi_at, if_pos rfl]
        · rw [zi_else _ _ (fun e => q e.2), if_neg q, zi_cell _ _ (show 67 ≠ 66 by decide)]
      have a5 : ∀ k, (zi (zi (zi u2 66 p (nI o)) 67 p (nI x)) 68 p (nI fm)).1 68 k = if k = p then nI fm else u2.1 68 k := fun k => by
        by_cases q : k = p
        · rw [q, zi_at, if_pos rfl]
        · rw [zi_else _ _ (fun e => q e.2), if_neg q, zi_cell _ _ (show 68 ≠ 67 by decide), zi_cell _ _ (show 68 ≠ 66 by decide)]
      have a3 : ∀ k, (zi (zi (zi u2 66 p (nI o)) 67 p (nI x)) 68 p (nI fm)).1 42 k = u2.1 42 k := fun k => by rw [zi_cell _ _ (show 42 ≠ 68 by decide), zi_cell _ _ (show 42 ≠ 67 by decide), zi_cell _ _ (show 42 ≠ 66 by decide)]
      have a4 : sc u2 (zi (zi (zi u2 66 p (nI o)) 67 p (nI x)) 68 p (nI fm)) := sc_tr (sc_zc (c := 66) (fun _ => rfl) _ _ _) (sc_tr (sc_zc (c := 67) (fun _ => rfl) _ _ _) (sc_zc (c := 68) (fun _ => rfl) _ _ _))
      generalize zi (zi (zi u2 66 p (nI o)) 67 p (nI x)) 68 p (nI fm) = u3 at *
      rw [a3, j5, nI_s]
      have b : ∀ c k, c ≠ 42 → (zi u3 42 42 (nI (n + 1))).1 c k = u3.1 c k := fun c k hc => by rw [zi_cell _ _ hc]
      refine ⟨_, rfl, _, rfl, sc_tr j6 (sc_tr a4 (sc_zi rfl _ _)), by rw [zi_else _ _ (by decide), a3]; exact j7, p, hp, fun k hk => ?_, ?_, fun k h1 h2 => ?_, ipN_eq hp j4 hq, zi_at _ _ _ _⟩
      · rw [b 66 k (by decide), b 67 k (by decide), b 68 k (by decide), a1, a2, a5, if_neg (by omega), if_neg (by omega), if_neg (by omega)]; exact j2 k hk
      · rw [b 66 p (by decide), b 67 p (by decide), b 68 p (by decide), a1, a2, a5, if_pos rfl, if_pos rfl, if_pos rfl]; exact ⟨rfl, rfl, rfl⟩
      · rw [b 66 k (by decide), b 67 k (by decide), b 68 k (by decide), a1, a2, a5, if_neg (by omega), if_neg (by omega), if_neg (by omega)]; exact j3 k h1 h2
    dsimp only [wX11_laysDonors_172]
    by_cases hp0 : p = 0
    · rw [if_pos (show u1 ≤ 0 by rw [j1, hp0]; exact Int32.le_refl _)]
      obtain ⟨rr, w, q⟩ := fin (Or.inl hp0)
      exact ⟨_, w, q⟩
    · rw [if_neg (show ¬ u1 ≤ 0 by rw [j1, show (0 : Int32) = nI 0 from rfl, nN_le (by omega) (by omega)]; omega)]
      have e1 : u1 - (1 : Int32) = nI (p - 1) := by rw [j1]; exact nI_sub (a := p) (b := 1) (by omega)
      have hfa := (d2 (p - 1) (by omega)).2.2.2.1
      rw [e1, zchk_t (zin_nI (by omega) (by omega)), nI_cl (by omega), (j2 (p - 1) (by omega)).2.1]
      by_cases hl : x < fa (p - 1)
      · rw [if_neg (fun q => absurd ((nN_le (by omega) (by omega)).mp q) (by omega)), zchk_t (zin_nI (by omega) (by omega)), j1]
        have z1 : ∀ {A : Type} (t : Option A), zchk (zin (nI p) 40) t = t := fun t => zchk_t (zin_nI (by omega) (by omega))
        have z2 : ∀ {A : Type} (t : Option A), zchk (zin (nI (p - 1)) 40) t = t := fun t => zchk_t (zin_nI (by omega) (by omega))
        rw [z1, z2, z1, z2, z1, nI_cl (by omega), zi_cell (c := 66) (d := 67) _ _ (by decide), zi_cell (c := 67) (d := 68) _ _ (by decide), zi_cell (c := 66) (d := 68) _ _ (by decide), (j2 (p - 1) (by omega)).1, (j2 (p - 1) (by omega)).2.1, (j2 (p - 1) (by omega)).2.2]
        have e2 : nI p + (-1 : Int32) = nI (p - 1) := by rw [← e1, j1, Int32.sub_eq_add_neg]
        rw [e2]
        have a1 : ∀ k, (zi (zi (zi u2 66 p (nI (od (p - 1)))) 67 p (nI (fa (p - 1)))) 68 p (nI (fo (p - 1)))).1 66 k = if k = p then nI (od (p - 1)) else u2.1 66 k := fun k => by
          rw [zi_cell _ _ (show 66 ≠ 68 by decide), zi_cell _ _ (show 66 ≠ 67 by decide)]
          by_cases q : k = p
          · rw [q, zi_at, if_pos rfl]
          · rw [zi_else _ _ (fun e => q e.2), if_neg q]
        have a2 : ∀ k, (zi (zi (zi u2 66 p (nI (od (p - 1)))) 67 p (nI (fa (p - 1)))) 68 p (nI (fo (p - 1)))).1 67 k = if k = p then nI (fa (p - 1)) else u2.1 67 k := fun k => by
          rw [zi_cell _ _ (show 67 ≠ 68 by decide)]
          by_cases q : k = p
          · rw [q, zi_at, if_pos rfl]
          · rw [zi_else _ _ (fun e => q e.2), if_neg q, zi_cell _ _ (show 67 ≠ 66 by decide)]
        have a5 : ∀ k, (zi (zi (zi u2 66 p (nI (od (p - 1)))) 67 p (nI (fa (p - 1)))) 68 p (nI (fo (p - 1)))).1 68 k = if k = p then nI (fo (p - 1)) else u2.1 68 k := fun k => by
          by_cases q : k = p
          · rw [q, zi_at, if_pos rfl]
          · rw [zi_else _ _ (fun e => q e.2), if_neg q, zi_cell _ _ (show 68 ≠ 67 by decide), zi_cell _ _ (show 68 ≠ 66 by decide)]
        have a3 : ∀ k, (zi (zi (zi u2 66 p (nI (od (p - 1)))) 67 p (nI (fa (p - 1)))) 68 p (nI (fo (p - 1)))).1 42 k = u2.1 42 k := fun k => by rw [zi_cell _ _ (show 42 ≠ 68 by decide), zi_cell _ _ (show 42 ≠ 67 by decide), zi_cell _ _ (show 42 ≠ 66 by decide)]
        have a4 : sc u2 (zi (zi (zi u2 66 p (nI (od (p - 1)))) 67 p (nI (fa (p - 1)))) 68 p (nI (fo (p - 1)))) := sc_tr (sc_zc (c := 66) (fun _ => rfl) _ _ _) (sc_tr (sc_zc (c := 67) (fun _ => rfl) _ _ _) (sc_zc (c := 68) (fun _ => rfl) _ _ _))
        generalize zi (zi (zi u2 66 p (nI (od (p - 1)))) 67 p (nI (fa (p - 1)))) 68 p (nI (fo (p - 1))) = u3 at *
        refine ⟨_, rfl, ⟨p - 1, by omega, rfl, fun k hk => ?_, fun k h1 h2 => ?_, fun k h1 h2 => ?_, (a3 42).trans j5, sc_tr j6 a4, (a3 0).trans j7⟩, ?_⟩
        · show u3.1 66 k = _ ∧ u3.1 67 k = _ ∧ u3.1 68 k = _
          rw [a1, a2, a5, if_neg (by omega), if_neg (by omega), if_neg (by omega)]; exact j2 k (by omega)
        · show u3.1 66 k = _ ∧ u3.1 67 k = _ ∧ u3.1 68 k = _
          rw [a1, a2, a5]
          by_cases q : k = p
          · rw [q, if_pos rfl, if_pos rfl, if_pos rfl]; exact ⟨rfl, rfl, rfl⟩
          · rw [if_neg q, if_neg q, if_neg q]; exact j3 k (by omega) h2
        · by_cases q : k = p - 1
          · rw [q]; exact hl
          · exact j4 k (by omega) h2
        · show (nI (p - 1)).toNatClampNeg < p
          rw [nI_cl (by omega)]; omega
      · rw [if_pos ((nN_le (by omega) (by omega)).mpr (by omega))]
        obtain ⟨rr, w, q⟩ := fin (Or.inr hl)
        exact ⟨_, w, q⟩) ((nI n), g) ⟨n, Nat.le_refl _, rfl, fun k hk => ⟨(d2 k hk).1, (d2 k hk).2.2.1, hfd hk⟩, fun k h1 h2 => absurd h1 (by omega), fun k h1 h2 => absurd h1 (by omega), d1, sc_rfl g, rfl⟩
  refine ⟨h, by rw [w, q0], q1, q8, q7, fun k hk => ?_⟩
  have hk' : k < n + 1 := hk
  show h.1 66 k = nI (shf od (ipN fa x n) o k) ∧ shf od (ipN fa x n) o k < N ∧ h.1 67 k = nI (shf fa (ipN fa x n) x k) ∧ shf fa (ipN fa x n) x k ≤ 225 ∧ h.1 68 k = nI (bF P (r i) (r (shf od (ipN fa x n) o k)) (ls P (r i)))
  rw [q6]
  unfold shf
  by_cases c1 : k < p
  · rw [if_pos c1, if_pos c1]
    have := d2 k (by omega)
    refine ⟨(q3 k c1).1, this.2.1, (q3 k c1).2.1, this.2.2.2.1, ?_⟩
    rw [(q3 k c1).2.2, ← hfo]
  · rw [if_neg c1, if_neg c1]
    by_cases c2 : k = p
    · rw [if_pos c2, if_pos c2, c2]
      exact ⟨q4.1, ho, q4.2.1, hx, by rw [q4.2.2, hfm]⟩
    · rw [if_neg c2, if_neg c2]
      have := d2 (k - 1) (by omega)
      refine ⟨(q5 k (by omega) (by omega)).1, this.2.1, (q5 k (by omega) (by omega)).2.1, this.2.2.2.1, ?_⟩
      rw [(q5 k (by omega) (by omega)).2.2, ← hfo]
end Md
