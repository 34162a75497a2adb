
/-! ===== patterns, rows alike, urgency ===== -/
section Kk
variable {P : zPl} {g : zS} {N : Nat} {r : Nat → Nat} {ky : Nat → Int32}
def k38 (c : Nat) : Bool := c == 38
/-- a row's pattern in one number -/
def pk (P : zPl) (c : Nat) : Nat := lft P c 0 (pn P) * 64 + rmis c (pn P)
theorem e_keyPatterns (hO : pOK P) (hP : cP P g) (hE : cE P g) (hR : rR P N r g) : ∃ h, nX4_keyPatterns g = some h ∧ fr k38 g h ∧ kR N (fun i => nI (pk P (r i))) h := by
  have h5 := hO.1
  unfold nX4_keyPatterns
  refine wh_up (fun i (s : Int32 × zS) => s.1 = nI i ∧ fr k38 g s.2 ∧ ∀ k, k < i → s.2.1 38 k = nI (pk P (r k))) _ N (fun i s hi hI => ?_) (fun s hI => ?_) ⟨rfl, fr_rfl _ _, fun k hk => absurd hk (Nat.not_lt_zero k)⟩
  · obtain ⟨i1, i2, i3⟩ := hI
    obtain ⟨s1, s2⟩ := s
    dsimp only at i1 i2 i3
    obtain ⟨r1, r2, r3⟩ := rR_fr ⟨rfl, rfl⟩ i2 hR
    have hP2 := cP_fr ⟨rfl, rfl, rfl, rfl, rfl, rfl, rfl⟩ i2 hP
    dsimp only [wX4_keyPatterns_2]
    rw [i1, r1, if_neg (by rw [nN_le (by omega) (by omega)]; omega), zchk_t (zin_nI (by omega) (by omega)), nI_cl (by omega), (r3 i hi).1, e_editsFailed hO hP2 (cE_fr rfl i2 hE) (r3 i hi).2]
    dsimp only [Option.bind_some]
    rw [hP2.1, e_missingIn (r3 i hi).2.1 h5]
    dsimp only [Option.bind_some]
    rw [zchk_t (zin_nI (by omega) (by omega)), show (64 : Int32) = nI 64 from rfl, nI_mul, nN_add, nI_s]
    refine ⟨_, rfl, rfl, fr_tr i2 (fr_zi rfl _ _ _), fun k hk => ?_⟩
    by_cases q : k = i
    · subst q; exact zi_at _ _ _ _
    · exact (zi_else _ _ (fun e => q e.2)).trans (i3 k (by omega))
  · obtain ⟨i1, i2, i3⟩ := hI
    obtain ⟨s1, s2⟩ := s
    dsimp only at i1 i2 i3
    obtain ⟨r1, r2, r3⟩ := rR_fr ⟨rfl, rfl⟩ i2 hR
    dsimp only [wX4_keyPatterns_2]
    rw [i1, r1, if_pos (Int32.le_refl _)]
    exact ⟨_, rfl, i2, r1, r2, i3⟩
theorem zcpo_t {a b n n0 n1 : Nat} (h1 : a + n ≤ n0) (h2 : b + n ≤ n1) (h3 : n0 < 2147483648) (h4 : n1 < 2147483648) : zcpo (nI a) (nI b) (nI n) n0 n1 = true := by
  unfold zcpo
  rw [nI_cl (by omega), nI_cl (by omega), nI_cl (by omega)]
  exact decide_eq_true ⟨nI_nn (by omega), nI_nn (by omega), nI_nn (by omega), h1, h2⟩
theorem zcpyA (g : zS) {i j a b n k : Nat} (ha : a < 2147483648) (hb : b < 2147483648) (hn : n < 2147483648) : (zcpy g i j (nI a) (nI b) (nI n)).1 j k = if b ≤ k ∧ k < b + n then g.1 i (a + (k - b)) else g.1 j k := by
  unfold zcpy
  rw [nI_cl ha, nI_cl hb, nI_cl hn]
  show (if j = j then va_cpy (g.1 i) (g.1 j) a b n else g.1 j) k = _
  rw [if_pos rfl]
  rfl
theorem e_keyAnswers (hR : rR P N r g) : ∃ h, nX4_keyAnswers g = some h ∧ fr k38 g h ∧ kR N (fun i => nI (r i)) h := by
  obtain ⟨r1, r2, r3⟩ := hR
  unfold nX4_keyAnswers
  rw [r1, show (0 : Int32) = nI 0 from rfl, zchk_t (zcpo_t (by omega) (by omega) (by omega) (by omega))]
  have hF : fr k38 g (zcpy g 32 38 (nI 0) (nI 0) (nI N)) := fr_zir rfl _ _
  refine ⟨_, rfl, hF, ?_, r2, fun k hk => ?_⟩
  · rw [(hF.1 31 rfl).1]; exact r1
  · rw [zcpyA g (by omega) (by omega) (by omega), if_pos (by omega), Nat.zero_add, Nat.sub_zero]
    exact (r3 k hk).1
theorem e_patternFirst (hO : pOK P) (hP : cP P g) (hE : cE P g) (hR : rR P N r g) (K : Int32) : ∃ h, nX4_patternFirst K g = some (kth (isF N (fun i => nI (pk P (r i)))) N K, h) ∧ fr k38 g h := by
  obtain ⟨h, w, hF, hK⟩ := e_keyPatterns hO hP hE hR
  have hK' := hK
  obtain ⟨r1, r2, r3⟩ := hK
  unfold nX4_patternFirst
  rw [w]
  dsimp only [Option.bind_some]
  generalize hp : isF N (fun i => nI (pk P (r i))) = p at *
  refine ⟨h, ?_, hF⟩
  have key := wh_fst (step := wX4_patternFirst_8 K h) (fun i => p i && decide (nI (cnt p i) = K)) (fun i => (nI (cnt p i), nI i)) N (fun i => (nI i, h)) ((-1 : Int32), h) (fun i hi hq => ?_) (fun i hi hq => ?_) ?_
  · rw [show ((0 : Int32), (0 : Int32)) = (nI (cnt p 0), nI 0) from rfl, key]
    obtain ⟨f1, f2, f3⟩ := fstB_spec (fun i => p i && decide (nI (cnt p i) = K)) N
    by_cases q : fstB (fun i => p i && decide (nI (cnt p i) = K)) N < N
    · rw [if_pos q, kth_some (f3 q) N (by omega) q]
    · rw [if_neg q, kth_none N (fun i hi => f2 i (by omega))]
  · dsimp only [wX4_patternFirst_8]
    rw [r1, if_neg (by rw [nN_le (by omega) (by omega)]; omega), zchk_t (zin_nI (by omega) (by omega)), nI_cl (by omega), r3 i hi, e_firstWithKey hK']
    dsimp only [Option.bind_some]
    have e := isF_key (ky := fun i => nI (pk P (r i))) r2 hi
    rw [hp] at e
    cases hpi : p i with
    | false => rw [if_neg (fun q => by rw [e.mp q] at hpi; cases hpi), nI_s, cnt_s, hpi, if_neg (by decide)]
    | true =>
      rw [hpi, Bool.true_and] at hq
      rw [if_pos (e.mpr hpi), if_neg (of_decide_eq_false hq), nI_s, nI_s, cnt_s, hpi, if_pos rfl]
  · dsimp only [wX4_patternFirst_8]
    rw [r1, if_neg (by rw [nN_le (by omega) (by omega)]; omega), zchk_t (zin_nI (by omega) (by omega)), nI_cl (by omega), r3 i hi, e_firstWithKey hK']
    dsimp only [Option.bind_some]
    have e := isF_key (ky := fun i => nI (pk P (r i))) r2 hi
    rw [hp] at e
    rw [Bool.and_eq_true, decide_eq_true_eq] at hq
    rw [if_pos (e.mpr hq.1), if_pos hq.2]
    rfl
  · dsimp only [wX4_patternFirst_8]
    rw [r1, if_pos (Int32.le_refl _)]
    rfl
theorem e_patternRows (hO : pOK P) (hP : cP P g) (hE : cE P g) (hR : rR P N r g) {i : Nat} (hi : i < N) : ∃ h, nX4_patternRows (nI i) g = some (nI (cnt (fun k => decide (nI (pk P (r k)) = nI (pk P (r i)))) N), h) ∧ fr k38 g h := by
  obtain ⟨h, w, hF, hK⟩ := e_keyPatterns hO hP hE hR
  have hN := hK.2.1
  unfold nX4_patternRows
  rw [w]
  dsimp only [Option.bind_some]
  rw [zchk_t (zin_nI (by omega) (by omega)), nI_cl (by omega), hK.2.2 i hi, e_countKey hK]
  exact ⟨h, rfl, hF⟩
theorem e_countPatterns (hO : pOK P) (hP : cP P g) (hE : cE P g) (hR : rR P N r g) : ∃ h, nX4_countPatterns g = some (nI (cnt (isF N (fun i => nI (pk P (r i)))) N), h) ∧ fr k38 g h := by
  obtain ⟨h, w, hF, hK⟩ := e_keyPatterns hO hP hE hR
  unfold nX4_countPatterns
  rw [w]
  dsimp only [Option.bind_some]
  rw [e_countKeys hK]
  exact ⟨h, rfl, hF⟩
theorem e_countUnlike (hR : rR P N r g) : ∃ h, nX4_countUnlike g = some (nI (cnt (isF N (fun i => nI (r i))) N), h) ∧ fr k38 g h := by
  obtain ⟨h, w, hF, hK⟩ := e_keyAnswers hR
  unfold nX4_countUnlike
  rw [w]
  dsimp only [Option.bind_some]
  rw [e_countKeys hK]
  exact ⟨h, rfl, hF⟩
theorem fwk_lt {i : Nat} (hi : i < N) : fwk N ky (ky i) < N := by
  obtain ⟨a, b, c⟩ := fstB_spec (fun j => decide (ky j = ky i)) N
  by_cases q : fwk N ky (ky i) < N
  · exact q
  · exfalso
    have e : fstB (fun j => decide (ky j = ky i)) N = N := by unfold fwk at q; omega
    have := b i (by omega)
    simp at this
theorem e_firstAlike (hR : rR P N r g) {i : Nat} (hi : i < N) : ∃ h, nX4_firstAlike (nI i) g = some (nI (fwk N (fun i => nI (r i)) (nI (r i))), h) ∧ fr k38 g h := by
  obtain ⟨h, w, hF, hK⟩ := e_keyAnswers hR
  have hN := hK.2.1
  unfold nX4_firstAlike
  rw [w]
  dsimp only [Option.bind_some]
  rw [zchk_t (zin_nI (by omega) (by omega)), nI_cl (by omega), hK.2.2 i hi, e_firstWithKey hK]
  dsimp only [Option.bind_some]
  rw [if_pos (fwk_lt (ky := fun i => nI (r i)) hi)]
  exact ⟨h, rfl, hF⟩
theorem e_countAlike (hR : rR P N r g) {i : Nat} (hi : i < N) : ∃ h, nX4_countAlike (nI i) g = some (nI (cnt (fun k => decide (nI (r k) = nI (r i))) N), h) ∧ fr k38 g h := by
  obtain ⟨h, w, hF, hK⟩ := e_keyAnswers hR
  have hN := hK.2.1
  unfold nX4_countAlike
  rw [w]
  dsimp only [Option.bind_some]
  rw [zchk_t (zin_nI (by omega) (by omega)), nI_cl (by omega), hK.2.2 i hi, e_countKey hK]
  exact ⟨h, rfl, hF⟩
/-- how urgent a row is; 0: it passes -/
def urg (P : zPl) (c : Nat) : Nat := if rgt P c then 0 else pcn (lft P c 0 (pn P)) * 64 + (if lw P c = 999 then 63 else lw P c) + 1
theorem lw_le (hO : pOK P) (c : Nat) : lw P c ≤ 45 ∨ lw P c = 999 := by
  have h5 := hO.1
  have := wSum_le hO (ls P c) (pn P) (Nat.le_refl _)
  unfold lw
  split
  · exact Or.inr rfl
  · exact Or.inl (by omega)
theorem urg_lt (hO : pOK P) (c : Nat) : urg P c < 500 := by
  have h1 := pcn_le (lft P c 0 (pn P))
  have h2 := lw_le hO c
  unfold urg
  split
  · omega
  · split <;> omega
theorem e_urgency (hO : pOK P) (hP : cP P g) (hE : cE P g) (hC : cC P g) (hL : cL P g) {c : Nat} (hc : rOK P c) : nX4_urgency (nI c) g = some (nJ (urg P c)) := by
  have h6 := p2m hO
  have h1 := lft_lt P c 0 (pn P)
  have h2 := lw_le hO c
  unfold nX4_urgency urg
  rw [e_isRight hO hP hE hc]
  dsimp only [Option.bind_some]
  cases rgt P c with
  | true => rw [if_neg (show ¬ (if true = true then (1 : Int32) else 0) = 0 by decide), if_pos rfl, nJ_0]
  | false =>
    rw [if_pos (show (if false = true then (1 : Int32) else 0) = 0 by decide), if_neg (by decide), e_leastWeight hO hP hE hC hL hc, e_editsFailed hO hP hE hc]
    dsimp only [Option.bind_some]
    rw [e_bitCount (by omega)]
    dsimp only [Option.bind_some]
    rw [nJ_s]
    by_cases q : lw P c = 999
    · rw [if_pos (show wI (lw P c) = -1 by rw [q]; rfl), if_pos q, show (64 : Int32) = nI 64 from rfl, show (63 : Int32) = nI 63 from rfl, nI_mul, nN_add]
    · have e : wI (lw P c) = nI (lw P c) := if_neg q
      rw [e, if_neg (show ¬ nI (lw P c) = (-1 : Int32) from fun k => by rw [nI_m1, nN_eqm (by omega)] at k; exact k), if_neg q, show (64 : Int32) = nI 64 from rfl, nI_mul, nN_add]
theorem nJ_lt {a b : Nat} (ha : a < 2147483648) (hb : b < 2147483648) : nJ a < nJ b ↔ a < b := by
  rw [← Int32.not_le, nJ_le hb ha]
  omega
/-- another row is ahead -/
def rkB (u : Nat → Nat) (i j : Nat) : Bool := decide (u i < u j) || (decide (j < i) && u j == u i)
theorem e_rankOf {u : Nat → Nat} (hu : ∀ k, u k < 500) (hK : kR N (fun k => nJ (u k)) g) {i : Nat} (hi : i < N) : nX4_rankOf (nI i) g = some (nI (cnt (rkB u i) N)) := by
  obtain ⟨r1, r2, r3⟩ := hK
  unfold nX4_rankOf
  refine wh_cnt _ N (fun j a hj => ?_) (fun a => ?_)
  · have u1 := hu i
    have u2 := hu j
    dsimp only [wX4_rankOf_4]
    have r3i : g.1 38 i = nJ (u i) := r3 i hi
    have r3j : g.1 38 j = nJ (u j) := r3 j hj
    rw [r1, if_neg (by rw [nN_le (by omega) (by omega)]; omega), zchk_t (zin_nI (by omega) (by omega)), zchk_t (zin_nI (by omega) (by omega)), nI_cl (by omega), nI_cl (by omega), r3i, r3j]
    by_cases c1 : u i < u j
    · have hh : rkB u i j = true := by unfold rkB; rw [decide_eq_true c1, Bool.true_or]
      rw [if_pos ((nJ_lt (by omega) (by omega)).mpr c1), nI_s, nI_s, hh, if_pos rfl]
    · rw [if_neg (fun q => c1 ((nJ_lt (by omega) (by omega)).mp q))]
      by_cases c2 : j < i
      · rw [if_neg (by rw [nN_le (by omega) (by omega)]; omega), zchk_t (zin_nI (by omega) (by omega)), zchk_t (zin_nI (by omega) (by omega))]
        by_cases c3 : u j = u i
        · have hh : rkB u i j = true := by unfold rkB; simp [c2, c3]
          rw [if_pos (by rw [c3]), nI_s, nI_s, hh, if_pos rfl]
        · have hh : rkB u i j = false := by unfold rkB; simp [c1, c3]
          rw [if_neg (fun q => c3 ((nJ_eq (by omega) (by omega)).mp q)), nI_s, hh, if_neg (by decide)]
      · have hh : rkB u i j = false := by unfold rkB; simp [c1, c2]
        rw [if_pos (by rw [nN_le (by omega) (by omega)]; omega), nI_s, hh, if_neg (by decide)]
  · dsimp only [wX4_rankOf_4]
    rw [r1, if_pos (Int32.le_refl _)]
    rfl
/-- the row that is the k-th most urgent -/
def urB (P : zPl) (N : Nat) (r : Nat → Nat) (K : Int32) (i : Nat) : Bool := urg P (r i) != 0 && decide (nI (cnt (rkB (fun k => urg P (r k)) i) N) = K)
theorem e_urgentAt (hO : pOK P) (hP : cP P g) (hE : cE P g) (hC : cC P g) (hL : cL P g) (hR : rR P N r g) (K : Int32) : ∃ h, nX4_urgentAt K g = some (if fstB (urB P N r K) N < N then nI (fstB (urB P N r K) N) else -1, h) ∧ fr k38 g h := by
  have h5 := hO.1
  unfold nX4_urgentAt
  obtain ⟨⟨r1, r2⟩, w, q1, q2⟩ := wh_up (step := wX4_urgentAt_2 K) (fun i (s : Int32 × zS) => s.1 = nI i ∧ fr k38 g s.2 ∧ ∀ k, k < i → s.2.1 38 k = nJ (urg P (r k))) (fun q : Int32 × zS => q.1 = (if fstB (urB P N r K) N < N then nI (fstB (urB P N r K) N) else -1) ∧ fr k38 g q.2) N (fun i s hi hI => by
    obtain ⟨i1, i2, i3⟩ := hI
    obtain ⟨s1, s2⟩ := s
    dsimp only at i1 i2 i3
    obtain ⟨r1, r2, r3⟩ := rR_fr ⟨rfl, rfl⟩ i2 hR
    have hP2 := cP_fr ⟨rfl, rfl, rfl, rfl, rfl, rfl, rfl⟩ i2 hP
    dsimp only [wX4_urgentAt_2]
    rw [i1, r1, if_neg (by rw [nN_le (by omega) (by omega)]; omega), zchk_t (zin_nI (by omega) (by omega)), nI_cl (by omega), (r3 i hi).1, e_urgency hO hP2 (cE_fr rfl i2 hE) (cC_fr rfl i2 hC) (cL_fr rfl i2 hL) (r3 i hi).2]
    dsimp only [Option.bind_some]
    rw [zchk_t (zin_nI (by omega) (by omega)), nI_s]
    refine ⟨_, rfl, rfl, fr_tr i2 (fr_zi rfl _ _ _), fun k hk => ?_⟩
    by_cases q : k = i
    · subst q; exact zi_at _ _ _ _
    · exact (zi_else _ _ (fun e => q e.2)).trans (i3 k (by omega))) (fun s hI => by
    obtain ⟨i1, i2, i3⟩ := hI
    obtain ⟨s1, s2⟩ := s
    dsimp only at i1 i2 i3
    obtain ⟨r1, r2, r3⟩ := rR_fr ⟨rfl, rfl⟩ i2 hR
    have hK : kR N (fun k => nJ (urg P (r k))) s2 := ⟨r1, r2, i3⟩
    dsimp only [wX4_urgentAt_2]
    rw [i1, r1, if_pos (Int32.le_refl _)]
    have key := wh_fst (step := wX4_urgentAt_40 K s2) (urB P N r K) (fun i => nI i) N (fun i => (nI i, s2)) ((-1 : Int32), s2) (fun i hi hq => by
      dsimp only [wX4_urgentAt_40]
      have hu := urg_lt hO (r i)
      rw [r1, if_neg (by rw [nN_le (by omega) (by omega)]; omega), zchk_t (zin_nI (by omega) (by omega)), nI_cl (by omega), i3 i hi]
      unfold urB at hq
      by_cases c : urg P (r i) = 0
      · rw [if_pos ((nJ_m1 (by omega)).mpr c), nI_s]
      · rw [if_neg (fun q => c ((nJ_m1 (by omega)).mp q)), e_rankOf (fun k => urg_lt hO (r k)) hK hi]
        dsimp only [Option.bind_some]
        rw [show (urg P (r i) != 0) = true from by simp [c], Bool.true_and] at hq
        rw [if_neg (of_decide_eq_false hq), nI_s]) (fun i hi hq => by
      dsimp only [wX4_urgentAt_40]
      have hu := urg_lt hO (r i)
      rw [r1, if_neg (by rw [nN_le (by omega) (by omega)]; omega), zchk_t (zin_nI (by omega) (by omega)), nI_cl (by omega), i3 i hi]
      unfold urB at hq
      rw [Bool.and_eq_true, bne_iff_ne, decide_eq_true_eq] at hq
      rw [if_neg (fun q => hq.1 ((nJ_m1 (by omega)).mp q)), e_rankOf (fun k => urg_lt hO (r k)) hK hi]
      dsimp only [Option.bind_some]
      rw [if_pos hq.2]
      rfl) (by
      dsimp only [wX4_urgentAt_40]
      rw [r1, if_pos (Int32.le_refl _)]
      rfl)
    rw [show (0 : Int32) = nI 0 from rfl, key]
    refine ⟨_, rfl, ?_, ?_⟩
    · split <;> rfl
    · split <;> exact i2) (s := ((0 : Int32), g)) ⟨rfl, fr_rfl _ _, fun k hk => absurd hk (Nat.not_lt_zero k)⟩
  dsimp only at q1 q2
  subst q1
  exact ⟨r2, w, q2⟩
end Kk
