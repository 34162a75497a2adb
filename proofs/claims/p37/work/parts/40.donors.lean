
/-! ===== acts taken back; the start of rows ===== -/
section Ab
variable {P : zPl} {g : zS} {N K : Nat} {r hN : Nat → Nat} {hr : Nat → Nat → Nat}
theorem e_takeBack0 (hH : cH P 0 hN hr g) : nX8_takeBack g = some (0, g) := by
  unfold nX8_takeBack
  rw [hH.1, if_pos (show nI 0 = (0 : Int32) from rfl)]
theorem e_takeBack (hH : cH P (K + 1) hN hr g) : ∃ h, nX8_takeBack g = some (1, h) ∧ fr kRw g h ∧ rR P (hN K) (hr K) h ∧ cH P K hN hr h := by
  obtain ⟨k1, k2, k3⟩ := hH
  obtain ⟨p1, p2, p3⟩ := k3 K (by omega)
  unfold nX8_takeBack
  rw [k1, if_neg (fun q => absurd ((nN_eq0 (by omega)).mp q) (by omega))]
  have eK : nI (K + 1) - (1 : Int32) = nI K := by rw [← nI_s, Int32.add_sub_cancel]
  rw [eK]
  have hF1 : fr kRw g (zi g 31 2 (nI K)) := fr_zi rfl _ _ _
  have v1 : (zi g 31 2 (nI K)).1 31 2 = nI K := zi_at _ _ _ _
  have c1 : (zi g 31 2 (nI K)).1 33 = g.1 33 := zi_cell _ _ (by decide)
  generalize zi g 31 2 (nI K) = g1 at *
  rw [v1, show (41 : Int32) = nI 41 from rfl, nI_mul, zchk_t (zin_nI (by omega) (by omega)), nI_cl (by omega), c1, p2]
  have hF2 : fr kRw g1 (zi g1 31 1 (nI (hN K))) := fr_zi rfl _ _ _
  have v2 : (zi g1 31 1 (nI (hN K))).1 31 2 = nI K := by rw [zi_else _ _ (by decide)]; exact v1
  have w2 : (zi g1 31 1 (nI (hN K))).1 31 1 = nI (hN K) := zi_at _ _ _ _
  have c2 : (zi g1 31 1 (nI (hN K))).1 33 = g1.1 33 := zi_cell _ _ (by decide)
  generalize zi g1 31 1 (nI (hN K)) = g2 at *
  rw [v2, nI_mul, nI_s, show (0 : Int32) = nI 0 from rfl, show (40 : Int32) = nI 40 from rfl, zchk_t (zcpo_t (by omega) (by omega) (by omega) (by omega))]
  have hF3 : fr kRw g2 (zcpy g2 33 32 (nI (K * 41 + 1)) (nI 0) (nI 40)) := fr_zir rfl _ _
  have v3 : ∀ k, (zcpy g2 33 32 (nI (K * 41 + 1)) (nI 0) (nI 40)).1 32 k = if 0 ≤ k ∧ k < 0 + 40 then g2.1 33 (K * 41 + 1 + (k - 0)) else g2.1 32 k := fun k => zcpyA g2 (by omega) (by omega) (by omega)
  have c3 : (zcpy g2 33 32 (nI (K * 41 + 1)) (nI 0) (nI 40)).1 33 = g2.1 33 := zcpy_cell _ _ _ _ (by decide)
  have d3 : (zcpy g2 33 32 (nI (K * 41 + 1)) (nI 0) (nI 40)).1 31 = g2.1 31 := zcpy_cell _ _ _ _ (by decide)
  generalize zcpy g2 33 32 (nI (K * 41 + 1)) (nI 0) (nI 40) = g3 at *
  refine ⟨g3, rfl, fr_tr hF1 (fr_tr hF2 hF3), ⟨?_, p1, fun k hk => ⟨?_, (p3 k hk).2⟩⟩, ?_, by omega, fun p hp => ?_⟩
  · rw [d3]; exact w2
  · rw [v3, if_pos (by omega), c2, c1, Nat.sub_zero]; exact (p3 k hk).1
  · rw [d3]; exact v2
  · rw [c3, c2, c1]; exact k3 p (by omega)
/-- the rows of a plan as read -/
def cR (P : zPl) (N : Nat) (r : Nat → Nat) (g : zS) : Prop := g.1 3 9 = nI N ∧ N ≤ 40 ∧ ∀ k, k < N → g.1 10 k = nI (r k) ∧ rOK P (r k)
theorem e_start (hR : cR P N r g) : ∃ h, nX8_start g = some h ∧ fr kRw g h ∧ rR P N r h ∧ cH P 0 hN hr h := by
  obtain ⟨r1, r2, r3⟩ := hR
  unfold nX8_start
  rw [show (40 : Int32) = nI 40 from rfl, show (0 : Int32) = nI 0 from rfl, zchk_t (zcpo_t (by omega) (by omega) (by omega) (by omega)), r1]
  have hF1 : fr kRw g (zi g 31 1 (nI N)) := fr_zi rfl _ _ _
  have w1 : (zi g 31 1 (nI N)).1 31 1 = nI N := zi_at _ _ _ _
  have c1 : (zi g 31 1 (nI N)).1 10 = g.1 10 := zi_cell _ _ (by decide)
  generalize zi g 31 1 (nI N) = g1 at *
  have hF2 : fr kRw g1 (zcpy g1 10 32 (nI 0) (nI 0) (nI 40)) := fr_zir rfl _ _
  have v2 : ∀ k, (zcpy g1 10 32 (nI 0) (nI 0) (nI 40)).1 32 k = if 0 ≤ k ∧ k < 0 + 40 then g1.1 10 (0 + (k - 0)) else g1.1 32 k := fun k => zcpyA g1 (by omega) (by omega) (by omega)
  have d2 : (zcpy g1 10 32 (nI 0) (nI 0) (nI 40)).1 31 = g1.1 31 := zcpy_cell _ _ _ _ (by decide)
  generalize zcpy g1 10 32 (nI 0) (nI 0) (nI 40) = g2 at *
  refine ⟨_, rfl, fr_tr hF1 (fr_tr hF2 (fr_zi rfl _ _ _)), ⟨?_, r2, fun k hk => ⟨?_, (r3 k hk).2⟩⟩, zi_at _ _ _ _, by omega, fun p hp => absurd hp (Nat.not_lt_zero p)⟩
  · rw [zi_else _ _ (by decide), d2]; exact w1
  · rw [zi_cell _ _ (by decide), v2, if_pos (by omega), c1, Nat.sub_zero, Nat.zero_add]; exact (r3 k hk).1
end Ab

/-! ===== donors ===== -/
section Do
variable {P : zPl} {g : zS} {N : Nat} {r : Nat → Nat}
/-- a row is of another's group, or its group may change -/
def ogB (P : zPl) (c d S : Nat) : Bool := pg P == 9 || S.testBit (pg P) || rv c (pg P) == rv d (pg P)
theorem e_isOfGroup (hO : pOK P) (hP : cP P g) {c d S : Nat} (hc : rOK P c) (hd : rOK P d) : nX2_isOfGroup (nI c) (nI d) (nI S) g = some (if ogB P c d S then 1 else 0) := by
  have h5 := hO.1
  have hg := hO.2.2.2.2.2.1
  unfold nX2_isOfGroup ogB
  rw [hP.2.2.2.2.1]
  unfold gI
  by_cases h9 : pg P = 9
  · rw [if_pos h9, if_pos rfl, h9]; rfl
  · have hlt : pg P < pn P := by rcases hg with q | q; exact q; exact absurd q h9
    have c1 := rv_lt c (pg P)
    have c2 := rv_lt d (pg P)
    rw [if_neg h9, if_neg (show ¬ nI (pg P) = (-1 : Int32) from fun q => by rw [nI_m1, nN_eqm (by omega)] at q; exact q), show (pg P == 9) = false from by simp [h9]]
    cases hS : S.testBit (pg P) with
    | true => rw [if_neg (fun q => by rw [(nI_bitg (by omega)).mp q] at hS; cases hS)]; rfl
    | false =>
      rw [if_pos ((nI_bitg (by omega)).mpr hS), e_answerAt hc.1 (by omega), e_answerAt hd.1 (by omega)]
      dsimp only [Option.bind_some]
      by_cases q : rv c (pg P) = rv d (pg P)
      · rw [if_pos (by rw [q]), q]; simp
      · rw [if_neg (fun e => q ((nJ_eq (by omega) (by omega)).mp e))]; simp [q]
theorem rOK_bld {c d S : Nat} (hc : rOK P c) (hd : rOK P d) (h5 : pn P ≤ 5) : rOK P (bld c d S) := ⟨bld_lt hc.1 hd.1, fun f hf => by
    rw [rv_bld (by omega)]
    split
    · exact hd.2.1 f hf
    · exact hc.2.1 f hf, fun f hf hf5 => by
    rw [rv_bld hf5]
    split
    · exact hd.2.2 f hf hf5
    · exact hc.2.2 f hf hf5⟩
/-- a row gives to another by its least set -/
def gvB (P : zPl) (c d S : Nat) : Bool := rgt P d && ogB P c d S && rgt P (bld c d S)
theorem e_gives (hO : pOK P) (hP : cP P g) (hE : cE P g) {c d S : Nat} (hc : rOK P c) (hd : rOK P d) : nX2_gives (nI c) (nI d) (nI S) g = some (if gvB P c d S then 1 else 0) := by
  have h5 := hO.1
  unfold nX2_gives gvB
  rw [e_isRight hO hP hE hd]
  dsimp only [Option.bind_some]
  cases rgt P d with
  | false => rw [if_pos (show (if false = true then (1 : Int32) else 0) = 0 by decide)]; rfl
  | true =>
    rw [if_neg (show ¬ (if true = true then (1 : Int32) else 0) = 0 by decide), e_isOfGroup hO hP hc hd]
    dsimp only [Option.bind_some]
    cases ogB P c d S with
    | false => rw [if_pos (show (if false = true then (1 : Int32) else 0) = 0 by decide)]; rfl
    | true =>
      rw [if_neg (show ¬ (if true = true then (1 : Int32) else 0) = 0 by decide), e_blend, Option.bind_some, e_isRight hO hP hE (rOK_bld hc hd h5)]
      dsimp only [Option.bind_some]
      cases rgt P (bld c d S) with
      | false => rw [if_pos (show (if false = true then (1 : Int32) else 0) = 0 by decide)]; rfl
      | true => rw [if_neg (show ¬ (if true = true then (1 : Int32) else 0) = 0 by decide)]; rfl
/-- donors: how many, their rows, how far -/
abbrev zDn : Type := Nat × (Nat → Nat) × (Nat → Nat)
/-- the place behind all that are no farther -/
def ipN (fa : Nat → Nat) (x : Nat) : Nat → Nat
  | 0 => 0
  | n + 1 => if x < fa n then ipN fa x n else n + 1
theorem ipN_spec (fa : Nat → Nat) (x : Nat) : ∀ n, ipN fa x n ≤ n ∧ (∀ k, ipN fa x n ≤ k → k < n → x < fa k) ∧ (ipN fa x n = 0 ∨ ¬ x < fa (ipN fa x n - 1)) := by
  intro n
  induction n with
  | zero => exact ⟨Nat.le_refl _, fun k _ hk => absurd hk (Nat.not_lt_zero k), Or.inl rfl⟩
  | succ n ih =>
    have e : ipN fa x (n + 1) = if x < fa n then ipN fa x n else n + 1 := rfl
    rw [e]
    by_cases c : x < fa n
    · rw [if_pos c]
      refine ⟨by omega, fun k h1 h2 => ?_, ih.2.2⟩
      by_cases q : k = n
      · rw [q]; exact c
      · exact ih.2.1 k h1 (by omega)
    · rw [if_neg c]
      exact ⟨Nat.le_refl _, fun k h1 h2 => absurd h2 (by omega), Or.inr c⟩
theorem ipN_eq {fa : Nat → Nat} {x n p : Nat} (h1 : p ≤ n) (h2 : ∀ k, p ≤ k → k < n → x < fa k) (h3 : p = 0 ∨ ¬ x < fa (p - 1)) : ipN fa x n = p := by
  obtain ⟨a, b, c⟩ := ipN_spec fa x n
  by_cases q1 : ipN fa x n < p
  · rcases h3 with h | h
    · omega
    · exact absurd (b (p - 1) (by omega) (by omega)) h
  · by_cases q2 : p < ipN fa x n
    · rcases c with h | h
      · omega
      · exact absurd (h2 (ipN fa x n - 1) (by omega) (by omega)) h
    · omega
def shf (f : Nat → Nat) (p x : Nat) : Nat → Nat := fun k => if k < p then f k else if k = p then x else f (k - 1)
def dIns (s : zDn) (o x : Nat) : zDn := (s.1 + 1, shf s.2.1 (ipN s.2.2 x s.1) o, shf s.2.2 (ipN s.2.2 x s.1) x)
def kDn (c : Nat) : Bool := decide (34 ≤ c) && decide (c ≤ 36)
/-- the class's donors -/
def dR (N : Nat) (s : zDn) (g : zS) : Prop := g.1 34 5 = nI s.1 ∧ ∀ k, k < s.1 → g.1 35 k = nI (s.2.1 k) ∧ s.2.1 k < N ∧ g.1 36 k = nI (s.2.2 k) ∧ s.2.2 k ≤ 225
theorem e_insert {s : zDn} (hD : dR N s g) (hn : s.1 < 40) {o x : Nat} (ho : o < N) (hx : x ≤ 225) : ∃ h, nX2_insert (nI o) (nI x) g = some h ∧ fr kDn g h ∧ dR N (dIns s o x) h := by
  obtain ⟨d1, d2⟩ := hD
  obtain ⟨n, od, fa⟩ := s
  dsimp only at d1 d2 hn
  unfold nX2_insert
  rw [d1]
  obtain ⟨h, w, q1, p, q2, q3, q4, q5, q6, q7⟩ := wh_post (step := wX2_insert_5 (nI o) (nI x)) (fun s : Int32 × zS => ∃ p, p ≤ n ∧ s.1 = nI p ∧ (∀ k, k < p → s.2.1 35 k = nI (od k) ∧ s.2.1 36 k = nI (fa k)) ∧ (∀ k, p < k → k ≤ n → s.2.1 35 k = nI (od (k - 1)) ∧ s.2.1 36 k = nI (fa (k - 1))) ∧ (∀ k, p ≤ k → k < n → x < fa k) ∧ s.2.1 34 5 = nI n ∧ fr kDn g s.2) (fun s => s.1.toNatClampNeg) (fun h : zS => fr kDn g h ∧ ∃ p, p ≤ n ∧ (∀ k, k < p → h.1 35 k = nI (od k) ∧ h.1 36 k = nI (fa k)) ∧ (h.1 35 p = nI o ∧ h.1 36 p = nI x) ∧ (∀ k, p < k → k ≤ n → h.1 35 k = nI (od (k - 1)) ∧ h.1 36 k = nI (fa (k - 1))) ∧ ipN fa x n = p ∧ h.1 34 5 = nI (n + 1)) (fun s hJ => by
    obtain ⟨p, hp, j1, j2, j3, j4, j5, j6⟩ := hJ
    obtain ⟨u1, u2⟩ := s
    dsimp only at j1 j2 j3 j5 j6
    have fin : (p = 0 ∨ ¬ x < fa (p - 1)) → ∃ r, zex (jX2_insert_55 (nI o) (nI x) u1 u2) = some (Sum.inr r : (Int32 × zS) ⊕ zS) ∧ (fr kDn g r ∧ ∃ p, p ≤ n ∧ (∀ k, k < p → r.1 35 k = nI (od k) ∧ r.1 36 k = nI (fa k)) ∧ (r.1 35 p = nI o ∧ r.1 36 p = nI x) ∧ (∀ k, p < k → k ≤ n → r.1 35 k = nI (od (k - 1)) ∧ r.1 36 k = nI (fa (k - 1))) ∧ ipN fa x n = p ∧ r.1 34 5 = nI (n + 1)) := fun hq => by
      unfold jX2_insert_55
      rw [j1, zchk_t (zin_nI (by omega) (by omega)), zchk_t (zin_nI (by omega) (by omega)), nI_cl (by omega)]
      have a1 : ∀ k, (zi (zi u2 36 p (nI x)) 35 p (nI o)).1 35 k = if k = p then nI o else u2.1 35 k := fun k => by
        by_cases q : k = p
        · rw [q, zi_at, if_pos rfl]
        · rw [zi_else _ _ (fun e => q e.2), if_neg q, zi_cell _ _ (by decide)]
      have a2 : ∀ k, (zi (zi u2 36 p (nI x)) 35 p (nI o)).1 36 k = if k = p then nI x else u2.1 36 k := fun k => by
        rw [zi_cell _ _ (by decide)]
        by_cases q : k = p
        · rw [q, zi_at, if_pos rfl]
        · rw [zi_else _ _ (fun e => q e.2), if_neg q]
      have a3 : (zi (zi u2 36 p (nI x)) 35 p (nI o)).1 34 5 = nI n := by rw [zi_cell _ _ (by decide), zi_cell _ _ (by decide)]; exact j5
      have a4 : fr kDn u2 (zi (zi u2 36 p (nI x)) 35 p (nI o)) := fr_tr (fr_zi rfl _ _ _) (fr_zi rfl _ _ _)
      generalize zi (zi u2 36 p (nI x)) 35 p (nI o) = u3 at *
      rw [a3, nI_s]
      refine ⟨_, rfl, fr_tr j6 (fr_tr a4 (fr_zi rfl _ _ _)), p, hp, fun k hk => ⟨?_, ?_⟩, ⟨?_, ?_⟩, fun k h1 h2 => ⟨?_, ?_⟩, ipN_eq hp j4 hq, zi_at _ _ _ _⟩
      · rw [zi_cell _ _ (by decide), a1, if_neg (by omega)]; exact (j2 k hk).1
      · rw [zi_cell _ _ (by decide), a2, if_neg (by omega)]; exact (j2 k hk).2
      · rw [zi_cell _ _ (by decide), a1, if_pos rfl]
      · rw [zi_cell _ _ (by decide), a2, if_pos rfl]
      · rw [zi_cell _ _ (by decide), a1, if_neg (by omega)]; exact (j3 k h1 h2).1
      · rw [zi_cell _ _ (by decide), a2, if_neg (by omega)]; exact (j3 k h1 h2).2
    dsimp only [wX2_insert_5]
    by_cases hp0 : p = 0
    · rw [if_pos (show u1 ≤ 0 by rw [j1, hp0]; exact Int32.le_refl _)]
      obtain ⟨r, w, q⟩ := fin (Or.inl hp0)
      exact ⟨_, w, q⟩
    · rw [if_neg (show ¬ u1 ≤ 0 by rw [j1, show (0 : Int32) = nI 0 from rfl, nN_le (by omega) (by omega)]; omega)]
      have e1 : u1 - (1 : Int32) = nI (p - 1) := by rw [j1]; exact nI_sub (a := p) (b := 1) (by omega)
      have hfa := (d2 (p - 1) (by omega)).2.2.2
      rw [e1, zchk_t (zin_nI (by omega) (by omega)), nI_cl (by omega), (j2 (p - 1) (by omega)).2]
      by_cases hl : x < fa (p - 1)
      · rw [if_neg (fun q => absurd ((nN_le (by omega) (by omega)).mp q) (by omega)), zchk_t (zin_nI (by omega) (by omega)), j1, zchk_t (zin_nI (by omega) (by omega)), zchk_t (zin_nI (by omega) (by omega)), zchk_t (zin_nI (by omega) (by omega)), nI_cl (by omega), zi_cell (c := 36) (d := 35) _ _ (by decide), (j2 (p - 1) (by omega)).1]
        have e2 : nI p + (-1 : Int32) = nI (p - 1) := by rw [← e1, j1, Int32.sub_eq_add_neg]
        rw [e2]
        refine ⟨_, rfl, ⟨p - 1, by omega, rfl, fun k hk => ⟨?_, ?_⟩, fun k h1 h2 => ⟨?_, ?_⟩, fun k h1 h2 => ?_, ?_, fr_tr j6 (fr_tr (fr_zi rfl _ _ _) (fr_zi rfl _ _ _))⟩, ?_⟩
        · rw [zi_else _ _ (fun e => absurd e.2 (by omega)), zi_cell _ _ (by decide)]; exact (j2 k (by omega)).1
        · rw [zi_cell _ _ (by decide), zi_else _ _ (fun e => absurd e.2 (by omega))]; exact (j2 k (by omega)).2
        · by_cases q : k = p
          · subst q; exact zi_at _ _ _ _
          · rw [zi_else _ _ (fun e => q e.2), zi_cell _ _ (by decide)]; exact (j3 k (by omega) h2).1
        · rw [zi_cell _ _ (by decide)]
          by_cases q : k = p
          · subst q; exact zi_at _ _ _ _
          · rw [zi_else _ _ (fun e => q e.2)]; exact (j3 k (by omega) h2).2
        · by_cases q : k = p - 1
          · rw [q]; exact hl
          · exact j4 k (by omega) h2
        · rw [zi_cell _ _ (by decide), zi_cell _ _ (by decide)]; exact j5
        · show (nI (p - 1)).toNatClampNeg < p
          rw [nI_cl (by omega)]; omega
      · rw [if_pos ((nN_le (by omega) (by omega)).mpr (by omega))]
        obtain ⟨r, w, q⟩ := fin (Or.inr hl)
        exact ⟨_, w, q⟩) ((nI n), g) ⟨n, Nat.le_refl _, rfl, fun k hk => ⟨(d2 k hk).1, (d2 k hk).2.2.1⟩, fun k h1 h2 => absurd h1 (by omega), fun k h1 h2 => absurd h1 (by omega), d1, fr_rfl _ _⟩
  refine ⟨h, w, q1, q7, fun k hk => ?_⟩
  have hk' : k < n + 1 := hk
  show h.1 35 k = nI (shf od (ipN fa x n) o k) ∧ shf od (ipN fa x n) o k < N ∧ h.1 36 k = nI (shf fa (ipN fa x n) x k) ∧ shf fa (ipN fa x n) x k ≤ 225
  rw [q6]
  unfold shf
  by_cases c1 : k < p
  · rw [if_pos c1, if_pos c1]
    have := d2 k (by omega)
    exact ⟨(q3 k c1).1, this.2.1, (q3 k c1).2, this.2.2.2⟩
  · rw [if_neg c1, if_neg c1]
    by_cases c2 : k = p
    · rw [if_pos c2, if_pos c2, c2]
      exact ⟨q4.1, ho, q4.2, hx⟩
    · rw [if_neg c2, if_neg c2]
      have := d2 (k - 1) (by omega)
      exact ⟨(q5 k (by omega) (by omega)).1, this.2.1, (q5 k (by omega) (by omega)).2, this.2.2.2⟩
end Do
