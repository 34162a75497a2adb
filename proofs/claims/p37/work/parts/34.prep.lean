
/-! ===== prepare ===== -/
section Pr
variable {P : zPl} {g : zS}
theorem cur_congr (P : zPl) {S T : Nat} : ∀ n, (∀ i, i < n → S.testBit i = T.testBit i) → ∀ x, cur P S n x = cur P T n x := by
  intro n
  induction n with
  | zero => intro _ x; rfl
  | succ n ih =>
    intro h x
    have ih' := ih (fun i hi => h i (by omega))
    show (if S.testBit n then anN (fun v => cur P S n (x &&& pT P n v)) (pq P n) else cur P S n x) = (if T.testBit n then anN (fun v => cur P T n (x &&& pT P n v)) (pq P n) else cur P T n x)
    rw [h n (by omega), ih' x, show (fun v => cur P S n (x &&& pT P n v)) = (fun v => cur P T n (x &&& pT P n v)) from funext (fun v => ih' _)]
theorem anN_congr {p q : Nat → Bool} : ∀ n, (∀ i, i < n → p i = q i) → anN p n = anN q n := by
  intro n h
  rw [Bool.eq_iff_iff, anN_iff, anN_iff]
  exact ⟨fun ⟨i, hi, k⟩ => ⟨i, hi, by rw [← h i hi]; exact k⟩, fun ⟨i, hi, k⟩ => ⟨i, hi, by rw [h i hi]; exact k⟩⟩
theorem m1_bit {n i : Nat} : (2 ^ n - 1).testBit i = decide (i < n) := Nat.testBit_two_pow_sub_one n i
def k21 (c : Nat) : Bool := c == 21
def k23 (c : Nat) : Bool := c == 23
/-- the cells that prepare changes -/
def kLg (c : Nat) : Bool := decide (20 ≤ c) && decide (c ≤ 25)
theorem fr_le21 {g h : zS} (a : fr k21 g h) : fr kLg g h := fr_le (fun c hc => by
  cases q : k21 c with
  | false => rfl
  | true => rw [beq_iff_eq.mp q] at hc; cases hc) a
theorem fr_le23 {g h : zS} (a : fr k23 g h) : fr kLg g h := fr_le (fun c hc => by
  cases q : k23 c with
  | false => rfl
  | true => rw [beq_iff_eq.mp q] at hc; cases hc) a
theorem fr_le22 {g h : zS} (a : fr k22 g h) : fr kLg g h := fr_le (fun c hc => by
  cases q : k22 c with
  | false => rfl
  | true => rw [beq_iff_eq.mp q] at hc; cases hc) a
theorem fr_leT {g h : zS} (a : fr kT g h) : fr kLg g h := fr_le (fun c hc => by
  cases q : kT c with
  | false => rfl
  | true =>
    unfold kT at q
    rw [Bool.or_eq_true, beq_iff_eq, beq_iff_eq] at q
    rcases q with rfl | rfl <;> cases hc) a
/-- prepare's second part: the families -/
theorem e_prep2 (hO : pOK P) (hP : cP P g) (hE : cE P g) (h0 : ∀ x, x < 64 → fb (g.2.1 23 0) x = (x == 0)) (Q : zS → Prop) (hQ : ∀ h, fr k23 g h → cC P h → ∃ r, ((nX5_sortSets h).bind fun v1 => (nX6_allEdits v1).bind fun v2 => (nX6_allFields v1).bind fun v3 => (nX5_tallyPassing v2 v3 v1).bind fun v4 => some ((zi v4.2 20 6 v4.1))) = some r ∧ Q r) : ∃ h, wh (wX5_prepare_95) ((0 : Int32), g) = some h ∧ Q h := by
  have h5 := hO.1
  have h7 := p2n hO
  refine wh_up (fun i (s : Int32 × zS) => s.1 = nI i ∧ (∀ S, S < 2 ^ i → ∀ x, x < 64 → fb (s.2.2.1 23 S) x = cur P S i x) ∧ fr k23 g s.2) Q (pn P) (fun i s hi hI => ?_) (fun s hI => ?_) ⟨rfl, fun S hS x hx => ?_, fr_rfl _ _⟩
  · obtain ⟨i1, i2, i3⟩ := hI
    obtain ⟨s1, s2⟩ := s
    dsimp only at i1 i2 i3
    have hP2 : cP P s2 := cP_fr ⟨rfl, rfl, rfl, rfl, rfl, rfl, rfl⟩ i3 hP
    have hp32 : 2 ^ i * 2 ≤ 32 := by
      have : 2 ^ (i + 1) ≤ 2 ^ pn P := Nat.pow_le_pow_right (by omega) (by omega)
      rw [Nat.pow_succ] at this
      omega
    have hor : ∀ T, T < 2 ^ i → T ||| 2 ^ i = 2 ^ i + T := fun T hT => by
      have h := Nat.two_pow_add_eq_or_of_lt hT 1
      rw [Nat.mul_one] at h
      rw [h, Nat.or_comm]
    dsimp only [wX5_prepare_95]
    rw [i1, hP2.1, if_neg (by rw [nN_le (by omega) (by omega)]; omega)]
    obtain ⟨r, w, s', hr, q1, q2, q3, q4⟩ := wh_up (step := wX5_prepare_108 (nI i)) (fun T (s : Int32 × zS) => s.1 = nI T ∧ (∀ S, S < 2 ^ i → ∀ x, x < 64 → fb (s.2.2.1 23 S) x = cur P S i x) ∧ (∀ U, U < T → ∀ x, x < 64 → fb (s.2.2.1 23 (2 ^ i + U)) x = cur P (2 ^ i + U) (i + 1) x) ∧ fr k23 g s.2) (fun r => ∃ s' : Int32 × zS, r = Sum.inl s' ∧ s'.1 = nI (i + 1) ∧ (∀ S, S < 2 ^ i → ∀ x, x < 64 → fb (s'.2.2.1 23 S) x = cur P S i x) ∧ (∀ U, U < 2 ^ i → ∀ x, x < 64 → fb (s'.2.2.1 23 (2 ^ i + U)) x = cur P (2 ^ i + U) (i + 1) x) ∧ fr k23 g s'.2) (2 ^ i) (fun T s hT hJ => by
      obtain ⟨j1, j2, j3, j4⟩ := hJ
      obtain ⟨u1, u2⟩ := s
      dsimp only at j1 j2 j3 j4
      have hP3 : cP P u2 := cP_fr ⟨rfl, rfl, rfl, rfl, rfl, rfl, rfl⟩ j4 hP
      dsimp only [wX5_prepare_108]
      rw [nI_shl (by omega), j1, if_neg (by rw [nN_le (by omega) (by omega)]; omega), zchk_t (zin_nI (by omega) (by omega)), e_allValues hO hP3 hi]
      dsimp only [Option.bind_some]
      rw [e_aheadOf hO hP3 (cE_fr rfl j4 hE) _ hi]
      dsimp only [Option.bind_some]
      rw [nI_or, hor T hT, zchk_t (zin_nI (by omega) (by omega)), nI_s, nI_cl (by omega), nI_cl (by omega)]
      refine ⟨_, rfl, rfl, fun S hS x hx => ?_, fun U hU x hx => ?_, fr_tr j4 (fr_zl rfl _ _ _)⟩
      · dsimp only
        rw [zl_else _ _ (fun e => absurd e.2 (by omega))]
        exact j2 S hS x hx
      · dsimp only
        by_cases hUT : U = T
        · subst hUT
          rw [zl_at, afN_bit P _ _ _ hx]
          show _ = (if (2 ^ i + U).testBit i then anN (fun v => cur P (2 ^ i + U) i (x &&& pT P i v)) (pq P i) else cur P (2 ^ i + U) i x)
          have hb : (2 ^ i + U).testBit i = true := by
            rw [← hor U hT, Nat.testBit_or, Nat.testBit_two_pow_self, Bool.or_true]
          rw [if_pos hb]
          refine anN_congr _ (fun v hv => ?_)
          rw [m1_bit, decide_eq_true hv, Bool.true_and, j2 U hT _ (Nat.lt_of_le_of_lt Nat.and_le_left hx)]
          refine cur_congr P i (fun k hk => ?_) _
          rw [← hor U hT, Nat.testBit_or, Nat.testBit_two_pow_of_ne (by omega), Bool.or_false]
        · rw [zl_else _ _ (fun e => absurd e.2 (by omega))]
          exact j3 U (by omega) x hx) (fun s hJ => by
      obtain ⟨j1, j2, j3, j4⟩ := hJ
      obtain ⟨u1, u2⟩ := s
      dsimp only at j1 j2 j3 j4
      dsimp only [wX5_prepare_108]
      rw [nI_shl (by omega), j1, if_pos (Int32.le_refl _), nI_s]
      exact ⟨_, rfl, _, rfl, rfl, j2, j3, j4⟩) (s := ((0 : Int32), s2)) ⟨rfl, i2, fun U hU => absurd hU (Nat.not_lt_zero U), i3⟩
    refine ⟨s', by rw [w, hr], q1, fun S hS x hx => ?_, q4⟩
    rw [Nat.pow_succ] at hS
    by_cases c : S < 2 ^ i
    · rw [q2 S c x hx]
      show cur P S i x = (if S.testBit i then _ else cur P S i x)
      rw [Nat.testBit_lt_two_pow c, if_neg (by decide)]
    · have h := q3 (S - 2 ^ i) (by omega) x hx
      rw [show 2 ^ i + (S - 2 ^ i) = S by omega] at h
      exact h
  · obtain ⟨i1, i2, i3⟩ := hI
    obtain ⟨s1, s2⟩ := s
    dsimp only at i1 i2 i3
    have hP2 : cP P s2 := cP_fr ⟨rfl, rfl, rfl, rfl, rfl, rfl, rfl⟩ i3 hP
    dsimp only [wX5_prepare_95]
    rw [i1, hP2.1, if_pos (Int32.le_refl _)]
    obtain ⟨r, w, q⟩ := hQ s2 i3 i2
    rw [w]
    exact ⟨r, rfl, q⟩
  · have : S = 0 := by rw [Nat.pow_zero] at hS; omega
    subst this
    exact h0 x hx
/-- prepare's first part: the edits that answers leave open -/
def p1I (P : zPl) (g : zS) (i : Nat) (s : Int32 × zS) : Prop := s.1 = nI i ∧ (∀ f, f < i → ∀ k, k ≤ pq P f → s.2.1 21 (f * 6 + k) = nI (eoa P f k)) ∧ fr k21 g s.2
theorem e_prep1 (hO : pOK P) (hP : cP P g) (i : Nat) (s : Int32 × zS) (hi : i < pn P) (hI : p1I P g i s) : ∃ s', wX5_prepare_2 s = some (.inl s') ∧ p1I P g (i + 1) s' := by
  have h5 := hO.1
  have h6 := p2m hO
  have h7 := p2n hO
  have hmp : 0 < 2 ^ pm P := Nat.two_pow_pos _
  obtain ⟨i1, i2, i3⟩ := hI
  obtain ⟨s1, s2⟩ := s
  dsimp only at i1 i2 i3
  have hq := hO.2.1 i hi
  have hP2 : cP P s2 := cP_fr ⟨rfl, rfl, rfl, rfl, rfl, rfl, rfl⟩ i3 hP
  dsimp only [wX5_prepare_2]
  rw [i1, hP2.1, if_neg (by rw [nN_le (by omega) (by omega)]; omega), e_allEdits hO hP2]
  dsimp only [Option.bind_some]
  obtain ⟨r, w, s', hr, q1, q2, q3⟩ := wh_up (step := wX5_prepare_23 (nI i)) (fun j (s : Int32 × Int32 × zS) => s.1 = nI (foN (fun v a => a &&& pT P i v) j (2 ^ pm P - 1)) ∧ s.2.1 = nI j ∧ (∀ f, f < i → ∀ k, k ≤ pq P f → s.2.2.1 21 (f * 6 + k) = nI (eoa P f k)) ∧ (∀ k, k < j → s.2.2.1 21 (i * 6 + 1 + k) = nI (pT P i k)) ∧ fr k21 g s.2.2) (fun r => ∃ s' : Int32 × zS, r = Sum.inl s' ∧ s'.1 = nI (i + 1) ∧ (∀ f, f < i + 1 → ∀ k, k ≤ pq P f → s'.2.1 21 (f * 6 + k) = nI (eoa P f k)) ∧ fr k21 g s'.2) (pq P i) (fun j s hj hJ => by
    obtain ⟨j1, j2, j3, j4, j5⟩ := hJ
    obtain ⟨u0, u1, u2⟩ := s
    dsimp only at j1 j2 j3 j4 j5
    have hP3 : cP P u2 := cP_fr ⟨rfl, rfl, rfl, rfl, rfl, rfl, rfl⟩ j5 hP
    dsimp only [wX5_prepare_23]
    rw [zchk_t (zin_nI (by omega) (by omega)), nI_cl (by omega), hP3.2.1 i hi, j2, if_neg (by rw [nN_le (by omega) (by omega)]; omega), e_editsWith hO hP3 hi (by omega)]
    dsimp only [Option.bind_some]
    rw [show (6 : Int32) = nI 6 from rfl, nI_mul, nI_s, nN_add, zchk_t (zin_nI (by omega) (by omega)), nI_cl (by omega), j1, nI_and, nI_s]
    refine ⟨_, rfl, rfl, rfl, fun f hf k hk => ?_, fun k hk => ?_, fr_tr j5 (fr_zi rfl _ _ _)⟩
    · have hfq := (hO.2.1 f (by omega)).2.1
      exact (zi_else _ _ (fun e => absurd e.2 (by omega))).trans (j3 f hf k hk)
    · by_cases hkj : k = j
      · subst hkj; exact zi_at _ _ _ _
      · exact (zi_else _ _ (fun e => absurd e.2 (by omega))).trans (j4 k (by omega))) (fun s hJ => by
    obtain ⟨j1, j2, j3, j4, j5⟩ := hJ
    obtain ⟨u0, u1, u2⟩ := s
    dsimp only at j1 j2 j3 j4 j5
    have hP3 : cP P u2 := cP_fr ⟨rfl, rfl, rfl, rfl, rfl, rfl, rfl⟩ j5 hP
    dsimp only [wX5_prepare_23]
    rw [zchk_t (zin_nI (by omega) (by omega)), nI_cl (by omega), hP3.2.1 i hi, j2, if_pos (Int32.le_refl _), show (6 : Int32) = nI 6 from rfl, nI_mul, zchk_t (zin_nI (by omega) (by omega)), nI_cl (by omega), j1, nI_s]
    refine ⟨_, rfl, _, rfl, rfl, fun f hf k hk => ?_, fr_tr j5 (fr_zi rfl _ _ _)⟩
    have hfq := (hO.2.1 f (by omega)).2.1
    by_cases hfi : f = i
    · subst hfi
      cases k with
      | zero =>
        rw [show eoa P f 0 = pC P f from if_pos rfl, Nat.add_zero]
        unfold pC
        exact zi_at _ _ _ _
      | succ k =>
        rw [eoa_s, show f * 6 + (k + 1) = f * 6 + 1 + k by omega]
        exact (zi_else _ _ (fun e => absurd e.2 (by omega))).trans (j4 k (by omega))
    · exact (zi_else _ _ (fun e => absurd e.2 (by omega))).trans (j3 f (by omega) k hk)) (s := (nI (2 ^ pm P - 1), (0 : Int32), s2)) ⟨rfl, rfl, i2, fun k hk => absurd hk (Nat.not_lt_zero k), i3⟩
  exact ⟨s', by rw [w, hr], q1, q2, q3⟩
theorem e_prep3 (hO : pOK P) (hP : cP P g) (hG : g.2.2.1 ≤ 1) (s : Int32 × zS) (hI : p1I P g (pn P) s) : ∃ r, wX5_prepare_2 s = some (.inr r) ∧ (cE P r ∧ cC P r ∧ cL P r ∧ r.1 20 6 = nI (nwb P (2 ^ pn P - 1) (pn P) (2 ^ pm P - 1)) ∧ fr kLg g r) := by
  have h5 := hO.1
  have h6 := p2m hO
  have h7 := p2n hO
  have hmp : 0 < 2 ^ pm P := Nat.two_pow_pos _
  obtain ⟨i1, i2, i3⟩ := hI
  obtain ⟨s1, s2⟩ := s
  dsimp only at i1 i2 i3
  have hP2 : cP P s2 := cP_fr ⟨rfl, rfl, rfl, rfl, rfl, rfl, rfl⟩ i3 hP
  have hE2 : cE P s2 := i2
  dsimp only [wX5_prepare_2]
  rw [i1, hP2.1, if_pos (Int32.le_refl _), zchk_t (show zin (0 : Int32) 32 = true from zin_nI (i := 0) (by omega) (by omega))]
  have hF3 : fr k23 s2 (zl s2 23 (0 : Int32).toNatClampNeg 1) := fr_zl rfl _ _ _
  have h03 : ∀ x, x < 64 → fb ((zl s2 23 (0 : Int32).toNatClampNeg 1).2.1 23 0) x = (x == 0) := fun x hx => by
    rw [show (0 : Int32).toNatClampNeg = 0 from rfl, zl_at]; exact fb_1 hx
  generalize zl s2 23 (0 : Int32).toNatClampNeg 1 = s3 at hF3 h03
  have hG3 : s3.2.2.1 ≤ 1 := hF3.2.1 (i3.2.1 hG)
  have hP3 : cP P s3 := cP_fr ⟨rfl, rfl, rfl, rfl, rfl, rfl, rfl⟩ hF3 hP2
  have hE3 : cE P s3 := cE_fr rfl hF3 hE2
  obtain ⟨r, w, q⟩ := e_prep2 hO hP3 hE3 h03 (fun h => cE P h ∧ cC P h ∧ cL P h ∧ h.1 20 6 = nI (nwb P (2 ^ pn P - 1) (pn P) (2 ^ pm P - 1)) ∧ fr kLg g h) (fun h hF hC => by
    have hP4 : cP P h := cP_fr ⟨rfl, rfl, rfl, rfl, rfl, rfl, rfl⟩ hF hP3
    have hE4 : cE P h := cE_fr rfl hF hE3
    obtain ⟨h1, w1, a1, a2⟩ := e_sortSets hO hP4
    rw [w1, Option.bind_some]
    have hP5 : cP P h1 := cP_fr ⟨rfl, rfl, rfl, rfl, rfl, rfl, rfl⟩ a2 hP4
    have hE5 : cE P h1 := cE_fr rfl a2 hE4
    have hC5 : cC P h1 := cC_fr rfl a2 hC
    rw [e_allEdits hO hP5, Option.bind_some, e_allFields hO hP5, Option.bind_some]
    obtain ⟨h2, w2, b2⟩ := e_tallyPassing (E := 2 ^ pm P - 1) (S := 2 ^ pn P - 1) hO hP5 hE5 (a2.2.1 (hF.2.1 hG3)) (by omega)
    rw [w2, Option.bind_some]
    dsimp only
    have hz : fr kLg h2 (zi h2 20 6 (nI (nwb P (2 ^ pn P - 1) (pn P) (2 ^ pm P - 1)))) := fr_zi rfl _ _ _
    have hz2 : fr (fun c => c == 20) h2 (zi h2 20 6 (nI (nwb P (2 ^ pn P - 1) (pn P) (2 ^ pm P - 1)))) := fr_zi rfl _ _ _
    refine ⟨_, rfl, cE_fr rfl hz2 (cE_fr rfl b2 hE5), cC_fr rfl hz2 (cC_fr rfl b2 hC5), cL_fr rfl hz2 (cL_fr rfl b2 a1), zi_at _ _ _ _, ?_⟩
    exact fr_tr (fr_le21 i3) (fr_tr (fr_le23 hF3) (fr_tr (fr_le23 hF) (fr_tr (fr_le22 a2) (fr_tr (fr_leT b2) hz)))))
  rw [w]
  exact ⟨r, rfl, q⟩
theorem e_prepare (hO : pOK P) (hP : cP P g) (hG : g.2.2.1 ≤ 1) : ∃ h, nX5_prepare g = some h ∧ (cE P h ∧ cC P h ∧ cL P h ∧ h.1 20 6 = nI (nwb P (2 ^ pn P - 1) (pn P) (2 ^ pm P - 1)) ∧ fr kLg g h) := by
  unfold nX5_prepare
  exact wh_up (p1I P g) _ (pn P) (e_prep1 hO hP) (e_prep3 hO hP hG) ⟨rfl, fun f hf => absurd hf (Nat.not_lt_zero f), fr_rfl _ _⟩
end Pr
