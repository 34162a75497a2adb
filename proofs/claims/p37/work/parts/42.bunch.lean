
/-! ===== bunches ===== -/
theorem cnt_upd {p p' : Nat → Bool} {j : Nat} (h0 : p j = false) (h1 : p' j = true) (h2 : ∀ i, i ≠ j → p' i = p i) : ∀ n, j < n → cnt p' n = cnt p n + 1 := by
  intro n
  induction n with
  | zero => intro h; exact absurd h (Nat.not_lt_zero j)
  | succ n ih =>
    intro hj
    rw [cnt_s, cnt_s]
    by_cases q : j = n
    · subst q
      rw [h0, h1, if_pos rfl, if_neg (by decide), cnt_congr j (fun i hi => h2 i (by omega))]
    · rw [ih (by omega), h2 n (fun e => q e.symm)]
      split <;> rfl
theorem cnt_lt {p : Nat → Bool} {j n : Nat} (hj : j < n) (h0 : p j = false) : cnt p n < n := by
  have h := cnt_upd (p := p) (p' := fun i => i == j || p i) h0 (by simp) (fun i hi => by simp [hi]) n hj
  have := cnt_le (fun i => i == j || p i) n
  omega
section Bu
variable {P : zPl} {g : zS} {N : Nat} {r : Nat → Nat}
/-- two rows near each other -/
def adj (P : zPl) (r : Nat → Nat) (n : Int32) (a x : Nat) : Bool := decide (nI (far P (r a) (r x) 0 (pn P)) ≤ n)
/-- reached from a row over rows that stand in no bunch -/
def Rch (A : Nat → Nat → Bool) (N : Nat) (B : Nat → Nat) (w x : Nat) : Prop := ∀ S : Nat → Prop, S w → (∀ a y, S a → y < N → B y = 0 → A a y = true → S y) → S x
/-- B' is B with a row's bunch -/
def flP (A : Nat → Nat → Bool) (N : Nat) (B : Nat → Nat) (b w : Nat) (B' : Nat → Nat) : Prop := B' w = b + 1 ∧ (∀ x, x < N → B x ≠ 0 → B' x = B x) ∧ (∀ x, x < N → B x = 0 → B' x = 0 ∨ (B' x = b + 1 ∧ Rch A N B w x)) ∧ ∀ a x, a < N → x < N → B' a = b + 1 → A a x = true → B' x ≠ 0
theorem flP_le {A : Nat → Nat → Bool} {B B' : Nat → Nat} {b w : Nat} (h : flP A N B b w B') (hw : w < N) (hB : ∀ x, x < N → B x ≤ b) {x : Nat} (hx : x < N) (h1 : B' x = b + 1) (S : Nat → Prop) (s1 : S w) (s2 : ∀ a y, S a → y < N → B y = 0 → A a y = true → S y) : S x := by
  by_cases q : B x = 0
  · rcases h.2.2.1 x hx q with e | e
    · omega
    · exact e.2 S s1 s2
  · have := h.2.1 x hx q
    have := hB x hx
    omega
theorem flP_sub {A : Nat → Nat → Bool} {B B' B2 : Nat → Nat} {b w : Nat} (h : flP A N B b w B') (k : flP A N B b w B2) (hw : w < N) (hB : ∀ x, x < N → B x ≤ b) {x : Nat} (hx : x < N) (h1 : B' x = b + 1) : B2 x = b + 1 := by
  refine (flP_le h hw hB hx h1 (fun y => y < N ∧ B2 y = b + 1) ⟨hw, k.1⟩ (fun a y ha hy h0 hA => ⟨hy, ?_⟩)).2
  have := k.2.2.2 a y ha.1 hy ha.2 hA
  rcases k.2.2.1 y hy h0 with e | e
  · exact absurd e this
  · exact e.1
theorem flP_uniq {A : Nat → Nat → Bool} {B B' B2 : Nat → Nat} {b w : Nat} (h : flP A N B b w B') (k : flP A N B b w B2) (hw : w < N) (hB : ∀ x, x < N → B x ≤ b) : ∀ x, x < N → B' x = B2 x := by
  intro x hx
  by_cases q : B x = 0
  · rcases h.2.2.1 x hx q with e | e
    · rcases k.2.2.1 x hx q with e2 | e2
      · rw [e, e2]
      · have := flP_sub k h hw hB hx e2.1
        omega
    · rw [e.1, flP_sub h k hw hB hx e.1]
  · rw [h.2.1 x hx q, k.2.1 x hx q]
def k389 (c : Nat) : Bool := c == 38 || c == 39
/-- what holds while a bunch is filled, behind the first k of the queue -/
def fbI (P : zPl) (r : Nat → Nat) (N : Nat) (n : Int32) (g : zS) (B : Nat → Nat) (b w0 k w : Nat) (B' q : Nat → Nat) (st : zS) : Prop := w = cnt (fun x => B' x == b + 1) N ∧ (∀ i, i < w → q i < N ∧ B' (q i) = b + 1) ∧ (∀ x, x < N → B' x = b + 1 → ∃ i, i < w ∧ q i = x) ∧ B' w0 = b + 1 ∧ (∀ x, x < N → B x ≠ 0 → B' x = B x) ∧ (∀ x, x < N → B x = 0 → B' x = 0 ∨ (B' x = b + 1 ∧ Rch (adj P r n) N B w0 x)) ∧ (∀ i, i < k → ∀ x, x < N → adj P r n (q i) x = true → B' x ≠ 0) ∧ (∀ x, x < N → st.1 38 x = nJ (B' x)) ∧ (∀ i, i < w → st.1 39 i = nI (q i)) ∧ fr k389 g st
theorem e_fill53 (hO : pOK P) (hP : cP P g) (hR : rR P N r g) {n : Int32} {B : Nat → Nat} {b w0 : Nat} (hB : ∀ x, x < N → B x ≤ b) (hb : b < 2147483000) (hw0 : w0 < N) {k w : Nat} {B' q : Nat → Nat} {st : zS} (hI : fbI P r N n g B b w0 k w B' q st) (hk : k < w) : ∃ s' : Int32 × Int32 × zS, wh (wX4_fillBunch_53 (nI b) n (nI k) (nI (r (q k)))) (nI w, (0 : Int32), st) = some (.inl s') ∧ ∃ w' B2 q2, s'.1 = nI w' ∧ s'.2.1 = nI (k + 1) ∧ k < w' ∧ fbI P r N n g B b w0 (k + 1) w' B2 q2 s'.2.2 := by
  have hN := hR.2.1
  obtain ⟨rr, ww, s', hr, q1⟩ := wh_up (step := wX4_fillBunch_53 (nI b) n (nI k) (nI (r (q k)))) (fun j (s : Int32 × Int32 × zS) => ∃ w' B2 q2, s.1 = nI w' ∧ s.2.1 = nI j ∧ k < w' ∧ q2 k = q k ∧ fbI P r N n g B b w0 k w' B2 q2 s.2.2 ∧ ∀ x, x < j → adj P r n (q k) x = true → B2 x ≠ 0) (fun rr => ∃ s' : Int32 × Int32 × zS, rr = Sum.inl s' ∧ ∃ w' B2 q2, s'.1 = nI w' ∧ s'.2.1 = nI (k + 1) ∧ k < w' ∧ fbI P r N n g B b w0 (k + 1) w' B2 q2 s'.2.2) N (fun j s hj hJ => by
    obtain ⟨w', B2, q2, j1, j2, j3, j4, hF, j6⟩ := hJ
    obtain ⟨u0, u1, u2⟩ := s
    dsimp only at j1 j2 hF
    have hF' := hF
    obtain ⟨f1, f2, f3, f4, f5, f6, f7, f8, f9, f10⟩ := hF
    obtain ⟨r1, r2, r3⟩ := rR_fr (K := k389) ⟨rfl, rfl⟩ f10 hR
    have hP2 := cP_fr ⟨rfl, rfl, rfl, rfl, rfl, rfl, rfl⟩ f10 hP
    have hqk : q k < N := by rw [← j4]; exact (f2 k j3).1
    have hw' : w' ≤ N := by rw [f1]; exact cnt_le _ _
    have hBj : B2 j = 0 ∨ (B2 j ≠ 0 ∧ B2 j ≤ b + 1) := by
      by_cases c : B2 j = 0
      · exact Or.inl c
      · refine Or.inr ⟨c, ?_⟩
        by_cases c0 : B j = 0
        · rcases f6 j hj c0 with e | e
          · exact absurd e c
          · omega
        · have := f5 j hj c0
          have := hB j hj
          omega
    dsimp only [wX4_fillBunch_53]
    rw [j2, r1, if_neg (by rw [nN_le (by omega) (by omega)]; omega), zchk_t (zin_nI (by omega) (by omega)), nI_cl (by omega), f8 j hj]
    rcases hBj with c | c
    · rw [if_pos ((nJ_m1 (by omega)).mpr c), zchk_t (zin_nI (by omega) (by omega)), (r3 j hj).1, show (0 : Int32) = nI 0 from rfl, e_farApart hO hP2 (r3 _ hqk).2 (r3 j hj).2, Option.bind_some, nI_s]
      by_cases ha : adj P r n (q k) j = true
      · have hle : nI (far P (r (q k)) (r j) 0 (pn P)) ≤ n := of_decide_eq_true ha
        have hlt : w' < N := by rw [f1]; exact cnt_lt hj (by rw [c]; simp)
        rw [if_neg (Int32.not_lt.mpr hle), zchk_t (zin_nI (by omega) (by omega)), j1, zchk_t (zin_nI (by omega) (by omega)), nI_cl (by omega), nI_s]
        refine ⟨_, rfl, w' + 1, fun x => if x = j then b + 1 else B2 x, fun i => if i = w' then j else q2 i, rfl, rfl, by omega, ?_, ⟨?_, fun i hi => ?_, fun x hx h => ?_, ?_, fun x hx h => ?_, fun x hx h => ?_, fun i hi x hx h => ?_, fun x hx => ?_, fun i hi => ?_, fr_tr f10 (fr_tr (fr_zi rfl _ _ _) (fr_zi rfl _ _ _))⟩, fun x hx h => ?_⟩
        · dsimp only
          rw [if_neg (by omega)]; exact j4
        · rw [cnt_upd (p := fun x => B2 x == b + 1) (j := j) (by rw [c]; simp) (by simp) (fun i hi => by simp [hi]) N hj, ← f1]
        · dsimp only
          by_cases e : i = w'
          · rw [if_pos e, if_pos rfl]; exact ⟨hj, rfl⟩
          · have h2 := f2 i (by omega)
            rw [if_neg e]
            refine ⟨h2.1, ?_⟩
            rw [if_neg (fun e2 => by rw [e2, c] at h2; omega)]
            exact h2.2
        · dsimp only at h ⊢
          by_cases e : x = j
          · exact ⟨w', by omega, by rw [if_pos rfl, e]⟩
          · rw [if_neg e] at h
            obtain ⟨i, hi, h2⟩ := f3 x hx h
            exact ⟨i, by omega, by rw [if_neg (by omega)]; exact h2⟩
        · dsimp only
          split
          · rfl
          · exact f4
        · dsimp only
          rw [if_neg (fun e => by rw [e] at h; have h2 := f5 j hj h; rw [c] at h2; exact h h2.symm)]
          exact f5 x hx h
        · dsimp only
          by_cases e : x = j
          · rw [if_pos e]
            refine Or.inr ⟨rfl, fun S s1 s2 => ?_⟩
            rw [e] at h ⊢
            refine s2 (q k) j ?_ hj h ha
            have hq1 := (f2 k j3)
            rw [j4] at hq1
            by_cases c0 : B (q k) = 0
            · rcases f6 (q k) hqk c0 with e2 | e2
              · omega
              · exact e2.2 S s1 s2
            · have := f5 (q k) hqk c0
              have := hB (q k) hqk
              omega
          · rw [if_neg e]; exact f6 x hx h
        · dsimp only at h ⊢
          rw [if_neg (by omega)] at h
          split
          · omega
          · exact f7 i hi x hx h
        · rw [zi_cell _ _ (by decide)]
          dsimp only
          by_cases e : x = j
          · rw [e, zi_at, if_pos rfl, nJ_s]
          · rw [zi_else _ _ (fun e2 => e e2.2), if_neg e]; exact f8 x hx
        · dsimp only
          by_cases e : i = w'
          · rw [e, zi_at, if_pos rfl]
          · rw [zi_else _ _ (fun e2 => e e2.2), zi_cell _ _ (by decide), if_neg e]; exact f9 i (by omega)
        · dsimp only
          split
          · omega
          · exact j6 x (by omega) h
      · have hgt : n < nI (far P (r (q k)) (r j) 0 (pn P)) := Int32.not_le.mp (fun e => ha (decide_eq_true e))
        rw [if_pos hgt]
        refine ⟨_, rfl, w', B2, q2, j1, rfl, j3, j4, hF', fun x hx h => ?_⟩
        by_cases e : x = j
        · rw [e] at h; exact absurd h ha
        · exact j6 x (by omega) h
    · rw [if_neg (fun e => c.1 ((nJ_m1 (by omega)).mp e)), nI_s]
      refine ⟨_, rfl, w', B2, q2, j1, rfl, j3, j4, hF', fun x hx h => ?_⟩
      by_cases e : x = j
      · rw [e]; exact c.1
      · exact j6 x (by omega) h) (fun s hJ => by
    obtain ⟨w', B2, q2, j1, j2, j3, j4, hF, j6⟩ := hJ
    obtain ⟨u0, u1, u2⟩ := s
    dsimp only at j1 j2 hF
    obtain ⟨f1, f2, f3, f4, f5, f6, f7, f8, f9, f10⟩ := hF
    obtain ⟨r1, r2, r3⟩ := rR_fr (K := k389) ⟨rfl, rfl⟩ f10 hR
    dsimp only [wX4_fillBunch_53]
    rw [j2, r1, if_pos (Int32.le_refl _), nI_s]
    refine ⟨_, rfl, _, rfl, w', B2, q2, j1, rfl, j3, f1, f2, f3, f4, f5, f6, fun i hi x hx h => ?_, f8, f9, f10⟩
    by_cases e : i = k
    · rw [e, j4] at h; exact j6 x hx h
    · exact f7 i (by omega) x hx h) (s := (nI w, (0 : Int32), st)) ⟨w, B', q, rfl, rfl, hk, rfl, hI, fun x hx => absurd hx (Nat.not_lt_zero x)⟩
  exact ⟨s', by rw [ww, hr], q1⟩
theorem e_fillBunch (hO : pOK P) (hP : cP P g) (hR : rR P N r g) {n : Int32} {B : Nat → Nat} {b w0 : Nat} (hB : ∀ x, x < N → B x ≤ b) (hb : b < 2147483000) (hw0 : w0 < N) (h0 : B w0 = 0) (hK : ∀ x, x < N → g.1 38 x = nJ (B x)) : ∃ h, nX4_fillBunch (nI w0) (nI b) n g = some h ∧ fr k389 g h ∧ ∃ B', flP (adj P r n) N B b w0 B' ∧ ∀ x, x < N → h.1 38 x = nJ (B' x) := by
  have hN := hR.2.1
  unfold nX4_fillBunch
  rw [zchk_t (show zin (0 : Int32) 40 = true from zin_nI (i := 0) (by omega) (by omega)), zchk_t (zin_nI (by omega) (by omega)), nI_cl (by omega), show (0 : Int32).toNatClampNeg = 0 from rfl]
  have hI0 : fbI P r N n g B b w0 0 1 (fun x => if x = w0 then b + 1 else B x) (fun _ => w0) (zi (zi g 39 0 (nI w0)) 38 w0 (nI b)) := by
    refine ⟨?_, fun i hi => ⟨hw0, if_pos rfl⟩, fun x hx h => ⟨0, by omega, ?_⟩, if_pos rfl, fun x hx h => if_neg (fun e => by rw [e] at h; exact h h0), fun x hx h => ?_, fun i hi => absurd hi (Nat.not_lt_zero i), fun x hx => ?_, fun i hi => ?_, fr_tr (fr_zi rfl _ _ _) (fr_zi rfl _ _ _)⟩
    · have e : cnt (fun x => B x == b + 1) N = 0 := by
        rw [cnt_congr (q := fun _ => false) N (fun x hx => by have := hB x hx; simp; omega)]
        clear hB hK hR hw0 h0
        induction N with
        | zero => rfl
        | succ n ih => rw [cnt_s, if_neg (by decide)]; exact ih (by omega)
      rw [cnt_upd (p := fun x => B x == b + 1) (j := w0) (by rw [h0]; simp) (by simp) (fun i hi => by simp [hi]) N hw0, e]
    · dsimp only at h ⊢
      by_cases e : x = w0
      · exact e.symm
      · rw [if_neg e] at h
        have := hB x hx
        omega
    · dsimp only
      by_cases e : x = w0
      · rw [if_pos e]
        exact Or.inr ⟨rfl, fun S s1 _ => by rw [e]; exact s1⟩
      · rw [if_neg e]; exact Or.inl h
    · dsimp only
      by_cases e : x = w0
      · rw [e, zi_at, if_pos rfl, nJ_s]
      · rw [zi_else _ _ (fun e2 => e e2.2), zi_cell _ _ (by decide), if_neg e]; exact hK x hx
    · rw [zi_cell _ _ (by decide), show i = 0 by omega, zi_at]
  generalize zi (zi g 39 0 (nI w0)) 38 w0 (nI b) = g1 at hI0
  obtain ⟨h, ww, q1, q2⟩ := wh_post (step := wX4_fillBunch_20 (nI b) n) (fun s : Int32 × Int32 × zS => ∃ k w B' q, s.1 = nI w ∧ s.2.1 = nI k ∧ k ≤ w ∧ fbI P r N n g B b w0 k w B' q s.2.2) (fun s => 50 - s.2.1.toNatClampNeg) (fun h : zS => fr k389 g h ∧ ∃ B', flP (adj P r n) N B b w0 B' ∧ ∀ x, x < N → h.1 38 x = nJ (B' x)) (fun s hJ => by
    obtain ⟨k, w, B', q, j1, j2, j3, hI⟩ := hJ
    obtain ⟨u0, u1, u2⟩ := s
    dsimp only at j1 j2 hI
    have hI' := hI
    obtain ⟨f1, f2, f3, f4, f5, f6, f7, f8, f9, f10⟩ := hI
    have hw : w ≤ N := by rw [f1]; exact cnt_le _ _
    have fin : w ≤ k → fr k389 g u2 ∧ ∃ B', flP (adj P r n) N B b w0 B' ∧ ∀ x, x < N → u2.1 38 x = nJ (B' x) := fun hle => ⟨f10, B', ⟨f4, f5, f6, fun a x ha hx h1 h2 => by
      obtain ⟨i, hi, e⟩ := f3 a ha h1
      rw [← e] at h2
      exact f7 i (by omega) x hx h2⟩, f8⟩
    dsimp only [wX4_fillBunch_20]
    rw [j1, j2]
    by_cases c : w ≤ k
    · rw [if_pos ((nN_le (by omega) (by omega)).mpr c)]
      exact ⟨_, rfl, fin c⟩
    · rw [if_neg (fun e => c ((nN_le (by omega) (by omega)).mp e)), if_neg (by rw [show (40 : Int32) = nI 40 from rfl, nN_le (by omega) (by omega)]; omega), zchk_t (zin_nI (by omega) (by omega)), nI_cl (by omega), f9 k (by omega), e_codeOf (rR_fr (K := k389) ⟨rfl, rfl⟩ f10 hR) (f2 k (by omega)).1, Option.bind_some]
      obtain ⟨s', w1, w', B2, q2, a1, a2, hkw, a3⟩ := e_fill53 hO hP hR hB hb hw0 hI' (show k < w by omega)
      rw [w1]
      have hw' : w' ≤ N := by rw [a3.1]; exact cnt_le _ _
      refine ⟨_, rfl, ⟨k + 1, w', B2, q2, a1, a2, by omega, a3⟩, ?_⟩
      show 50 - s'.2.1.toNatClampNeg < 50 - k
      rw [a2, nI_cl (by omega)]
      omega) (nI 1, nI 0, g1) ⟨0, 1, _, _, rfl, rfl, by omega, hI0⟩
  exact ⟨h, ww, q1, q2⟩
end Bu
