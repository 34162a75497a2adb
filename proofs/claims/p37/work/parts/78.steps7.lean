
/-! ===== steps that change what is held: feed, end, write ===== -/
/-- the ints of some places alone change -/
def mw (W : Nat → Nat → Prop) (g h : zS) : Prop := (∀ c k, ¬ W c k → h.1 c k = g.1 c k) ∧ h.2 = g.2
def b8 (x : Int32) : Nat := (x &&& 255).toBitVec.toNat
section S7
variable {S S' : zSt} {g h k : zS} {P : zPl} {W V : Nat → Nat → Prop}
theorem mw_rfl (g : zS) : mw W g g := ⟨fun _ _ _ => rfl, rfl⟩
theorem mw_tr (a : mw W g h) (b : mw W h k) : mw W g k := ⟨fun c i q => (b.1 c i q).trans (a.1 c i q), b.2.trans a.2⟩
theorem mw_zi {c i : Nat} (q : W c i) (g : zS) (v : Int32) : mw W g (zi g c i v) := ⟨fun d j hd => zi_else _ _ (fun e => by rw [e.1, e.2] at hd; exact hd q), rfl⟩
theorem mw_le (q : ∀ c k, V c k → W c k) (a : mw V g h) : mw W g h := ⟨fun c k hk => a.1 c k (fun e => hk (q c k e)), a.2⟩
theorem mw_sc (q : ∀ c k, (c = 42 ∧ (k = 0 ∨ k = 36 ∨ k = 42)) ∨ c = 60 ∨ (63 ≤ c ∧ c ≤ 70) → W c k) (a : sc g h) : mw W g h := ⟨fun c k hk => a.1 c k (by
  unfold scB
  rw [← Bool.not_eq_true]
  intro e
  apply hk
  apply q
  simp only [Bool.or_eq_true, Bool.and_eq_true, beq_iff_eq, decide_eq_true_eq] at e
  omega), a.2⟩
theorem mw_fr (q : ∀ c k, W c k → 42 ≤ c ∧ c ≤ 71) (a : mw W g h) : fr kRf g h := ⟨fun c hc => ⟨funext fun k => a.1 c k (fun e => by
  have := q c k e
  unfold kRf at hc
  rw [Bool.and_eq_false_iff, decide_eq_false_iff_not, decide_eq_false_iff_not] at hc
  omega), by rw [a.2]⟩, by rw [a.2]; exact id, by rw [a.2]⟩
theorem mPn_mw (q : ∀ c k, W c k → ¬ (51 ≤ c ∧ c ≤ 54) ∧ ¬ (56 ≤ c ∧ c ≤ 59) ∧ (c = 42 → k ≠ 16 ∧ k ≠ 17 ∧ k ≠ 19 ∧ k ≠ 29)) (a : mw W g h) (p : mPn P g) : mPn P h := by
  obtain ⟨p1, p2, p3, p4⟩ := p
  have e : ∀ c, (51 ≤ c ∧ c ≤ 54) ∨ (56 ≤ c ∧ c ≤ 59) → h.1 c = g.1 c := fun c hc => funext fun k => a.1 c k (fun w => by have := q c k w; omega)
  have f : ∀ k, k = 16 ∨ k = 17 ∨ k = 19 ∨ k = 29 → h.1 42 k = g.1 42 k := fun k hk => a.1 42 k (fun w => by have := q 42 k w; omega)
  refine ⟨?_, ?_, ?_, ?_⟩
  · unfold mP at p1 ⊢
    rw [f 16 (by omega), f 17 (by omega), f 19 (by omega), e 51 (by omega), e 52 (by omega), e 53 (by omega), e 54 (by omega), e 58 (by omega)]
    exact p1
  · unfold mF at p2 ⊢
    rw [e 56 (by omega), e 57 (by omega)]
    exact p2
  · unfold mNm at p3 ⊢
    rw [a.2]
    exact p3
  · unfold mL at p4 ⊢
    rw [f 29 (by omega), e 59 (by omega)]
    exact p4
theorem mR_mw {N : Nat} {r : Nat → Nat} (q : ∀ c k, W c k → c ≠ 55 ∧ (c = 42 → k ≠ 18)) (a : mw W g h) (p : mR P N r g) : mR P N r h := by
  unfold mR at p ⊢
  rw [a.1 42 18 (fun w => (q _ _ w).2 rfl rfl), show h.1 55 = g.1 55 from funext fun k => a.1 55 k (fun w => (q _ _ w).1 rfl)]
  exact p
theorem mH_mw {K : Nat} {hN : Nat → Nat} {hr : Nat → Nat → Nat} (q : ∀ c k, W c k → c ≠ 61 ∧ c ≠ 62 ∧ (c = 42 → k ≠ 32)) (a : mw W g h) (p : mH P K hN hr g) : mH P K hN hr h := by
  unfold mH at p ⊢
  rw [a.1 42 32 (fun w => (q _ _ w).2.2 rfl rfl), show h.1 61 = g.1 61 from funext fun k => a.1 61 k (fun w => (q _ _ w).1 rfl), show h.1 62 = g.1 62 from funext fun k => a.1 62 k (fun w => (q _ _ w).2.1 rfl)]
  exact p
theorem mTp_mw {tn : Nat} {tb : Nat → Nat} (q : ∀ c k, W c k → c ≠ 43 ∧ (c = 42 → k ≠ 2)) (a : mw W g h) (p : mTp tn tb g) : mTp tn tb h := by
  unfold mTp at p ⊢
  rw [a.1 42 2 (fun w => (q _ _ w).2 rfl rfl), show h.1 43 = g.1 43 from funext fun k => a.1 43 k (fun w => (q _ _ w).1 rfl)]
  exact p
theorem mWr_mw {wn : Nat} {wb : Nat → Nat} (q : ∀ c k, W c k → c ≠ 71 ∧ (c = 42 → k ≠ 46)) (a : mw W g h) (p : mWr wn wb g) : mWr wn wb h := by
  unfold mWr at p ⊢
  rw [a.1 42 46 (fun w => (q _ _ w).2 rfl rfl), show h.1 71 = g.1 71 from funext fun k => a.1 71 k (fun w => (q _ _ w).1 rfl)]
  exact p
/-- the class changes what it holds -/
def cV (L : zS → Option (Int32 × zS)) (S' : zSt) (g : zS) (cd an : Int32) : Prop := ∃ h, L g = some (cd, h) ∧ fr kN g h ∧ cI S' h ∧ (cd = 0 → h.2.1 72 0 = an.toInt64)
def mV (M : zS → Option (Int32 × zS)) (S S' : zSt) (cd an : Int32) : Prop := ∀ h, rI S h → ∃ k an', M h = some (an', k) ∧ fr kRf h k ∧ rI S' k ∧ k.1 42 0 = cd ∧ (cd = 0 → an' = an)
theorem kN_R' {c : Nat} (h1 : 42 ≤ c) (h2 : c ≤ 71) : kN c = false := kN_R h1 h2
theorem cI_72 (v : Int64) (p : cI S g) : cI S (zl g 72 0 v) := cI_fr (K := fun c => c == 72) (fun c hc => by
  rw [beq_eq_false_iff_ne]
  intro e
  subst e
  exact absurd hc (by decide)) (fr_zl rfl g 0 v) p
theorem st_v {L M : zS → Option (Int32 × zS)} {cd an : Int32} (hm : rI S g) (q1 : cV L S' g cd an) (q2 : mV M S S' cd an) : ∃ r, stT L M g = some r ∧ Iv r := by
  obtain ⟨h, w1, a1, hc1, a2⟩ := q1
  have hm1 : rI S h := rI_fz (K := kN) (fun c h1 h2 => kN_R h1 h2) (fz_fr a1) hm
  obtain ⟨k, an', w2, b1, hm2, b2, b3⟩ := q2 h hm1
  refine ⟨k, ?_, S', cI_fr kQ_R b1 hc1, hm2⟩
  unfold stT
  rw [w1, Option.bind_some, zchk_t (decide_eq_true a1.2.2)]
  dsimp only
  rw [w2, Option.bind_some, zchk_t (decide_eq_true b1.2.2)]
  unfold nX11_thrown
  rw [Option.bind_some, b2, if_pos rfl]
  by_cases c : cd = 0
  · rw [if_pos c, if_pos]
    rw [b3 c, (b1.1 72 rfl).2, show (0 : Int32).toNatClampNeg = 0 from rfl, a2 c]
    exact lg_rfl _
  · rw [if_neg c]
theorem st_vd {L M : zS → Option (Int32 × zS)} {an : Int32} (hm : rI S g) (q1 : ∃ h, L g = some (an, h) ∧ fr kN g h ∧ cI S' h) (q2 : ∀ h, rI S h → ∃ k, M h = some (an, k) ∧ fr kRf h k ∧ rI S' k) : ∃ r, ((L g).bind fun v1 => zchk (decide (v1.2.2.2.2 = g.2.2.2)) ((M v1.2).bind fun v2 => zchk (decide (v2.2.2.2.2 = v1.2.2.2.2)) (if v1.1 = v2.1 then (some v2.2) else (none)))) = some r ∧ Iv r := by
  obtain ⟨h, w1, a1, hc1⟩ := q1
  have hm1 : rI S h := rI_fz (K := kN) (fun c h1 h2 => kN_R h1 h2) (fz_fr a1) hm
  obtain ⟨k, w2, b1, hm2⟩ := q2 h hm1
  refine ⟨k, ?_, S', cI_fr kQ_R b1 hc1, hm2⟩
  rw [w1, Option.bind_some, zchk_t (decide_eq_true a1.2.2)]
  dsimp only
  rw [w2, Option.bind_some, zchk_t (decide_eq_true b1.2.2), if_pos rfl]
theorem cV_ls {X : zS → Option ((Int32 ⊕ String) × zS)} {E : String → zS → Option (Int32 × zS)} {w : Int32} (q : X g = some (.inl w, h)) (a : fr kN g h) (p : cI S' h) : cV (fun g => (X g).bind fun v => zel2 v (fun w g2 => some ((0 : Int32), (zl g2 72 (0 : Int32).toNatClampNeg w.toInt64))) (fun e g2 => E e g2)) S' g 0 w := by
  refine ⟨_, by dsimp only; rw [q, Option.bind_some]; rfl, fr_tr a (fr_zl rfl _ _ _), cI_72 _ p, fun _ => zl_at _ _ _ _⟩
theorem nar_b (x : Int32) : vp_nar .byte x = x.toInt8.toInt32 := rfl
theorem nar_and (x : Int32) : (vp_nar .byte x.toInt8.toInt32) &&& 255 = x &&& 255 := by
  rw [nar_b]
  apply Int32.toBitVec.inj
  rw [Int32.toBitVec_and, Int32.toBitVec_and]
  apply BitVec.eq_of_getLsbD_eq
  intro i hi
  simp only [BitVec.getLsbD_and, Int8.toBitVec_toInt32, Int32.toBitVec_toInt8, BitVec.getLsbD_signExtend, BitVec.getLsbD_setWidth]
  have : ∀ i, i < 32 → (255 : Int32).toBitVec.getLsbD i = decide (i < 8) := by decide
  rw [this i hi]
  by_cases c : i < 8
  · simp [c, hi]
  · simp [c]
theorem b8_eq (x : Int32) : x &&& 255 = nI (b8 x) := by
  apply Int32.toBitVec.inj
  show (x &&& 255).toBitVec = BitVec.ofNat 32 (x &&& 255).toBitVec.toNat
  rw [BitVec.ofNat_toNat, BitVec.setWidth_eq]
theorem b8_lt (x : Int32) : b8 x < 256 := by
  unfold b8
  rw [Int32.toBitVec_and, BitVec.toNat_and]
  exact Nat.lt_of_le_of_lt Nat.and_le_right (by decide)
theorem b8_nar {x : Nat} (h : x < 128) : vp_nar .byte (nI x).toInt8.toInt32 = nI x := by
  have : ∀ x, x < 128 → vp_nar .byte (nI x).toInt8.toInt32 = nI x := by decide +kernel
  exact this x h
/-- the byte i of what is fed -/
def fbA (A : Nat → Int32) (i : Nat) : Nat := b8 (A (i / 4) >>> (nI (24 - 8 * (i % 4)) &&& 31))
/-- the class's tape grows -/
def pu (n m : Nat) (B : Nat → Nat) (g h : zS) : Prop := h.1 1 1 = nI m ∧ (∀ k, k < n → h.1 2 k = g.1 2 k) ∧ (∀ k, n ≤ k → k < m → h.1 2 k &&& 255 = nI (B k)) ∧ fr (fun c => c == 1 || c == 2) g h
theorem pu_tr {n m l : Nat} {B : Nat → Nat} (hm : n ≤ m) (a : pu n m B g h) (b : pu m l B h k) : pu n l B g k := by
  refine ⟨b.1, fun i hi => (b.2.1 i (by omega)).trans (a.2.1 i hi), fun i h1 h2 => ?_, fr_tr a.2.2.2 b.2.2.2⟩
  by_cases c : i < m
  · rw [b.2.1 i c]; exact a.2.2.1 i h1 c
  · exact b.2.2.1 i (by omega) h2
theorem e_put (x : Int32) {n : Nat} {B : Nat → Nat} (hn : n + 4 ≤ 400) (h1 : g.1 1 1 = nI n) (hB : ∀ j, j < 4 → B (n + j) = b8 (x >>> (nI (24 - 8 * j) &&& 31))) : ∃ h, nX9_put x g = some h ∧ pu n (n + 4) B g h := by
  unfold nX9_put
  refine wh_up (fun i (s : Int32 × zS) => s.1 = (if i = 4 then -8 else nI (24 - 8 * i)) ∧ pu n (n + i) B g s.2) (fun h => pu n (n + 4) B g h) 4 ?_ ?_ ⟨rfl, h1, fun _ _ => rfl, fun _ _ _ => by omega, fr_rfl _ _⟩
  · intro i s hi ⟨a1, a2⟩
    have c4 : i ≠ 4 := by omega
    rw [if_neg c4] at a1
    unfold wX9_put_3
    rw [a1, if_neg (nI_nn (by omega)), a2.1, if_neg (show ¬ (400 : Int32) ≤ nI (n + i) from fun q => by have := (nN_le (a := 400) (by omega) (by omega)).mp q; omega), zchk_t (zin_nI (by omega) (by omega)), nI_cl (by omega)]
    refine ⟨_, rfl, ?_, ?_⟩
    · have : ∀ i, i < 4 → nI (24 - 8 * i) + (-8 : Int32) = (if i + 1 = 4 then -8 else nI (24 - 8 * (i + 1))) := by decide
      exact this i hi
    · refine ⟨?_, fun j hj => ?_, fun j h2 h3 => ?_, ?_⟩
      · dsimp only
        rw [zi_at, zi_else _ _ (by omega), a2.1, nI_s, show n + i + 1 = n + (i + 1) by omega]
      · dsimp only
        rw [zi_else _ _ (by omega), zi_else _ _ (by omega), a2.2.1 j hj]
      · dsimp only
        rw [zi_else _ _ (by omega)]
        by_cases c : j = n + i
        · rw [c, zi_at, nar_and, b8_eq, hB i hi]
        · rw [zi_else _ _ (by omega)]
          exact a2.2.2.1 j h2 (by omega)
      · exact fr_tr a2.2.2.2 (fr_tr (fr_zi rfl _ _ _) (fr_zi rfl _ _ _))
  · intro s ⟨a1, a2⟩
    unfold wX9_put_3
    rw [a1, if_pos (by decide)]
    exact ⟨_, rfl, a2⟩
theorem e_feed {A : Nat → Int32} {n : Nat} (hn : n + 20 ≤ 400) (h1 : g.1 1 1 = nI n) : ∃ h, nX10_feed (A 0) (A 1) (A 2) (A 3) (A 4) g = some (nI (n + 20), h) ∧ pu n (n + 20) (fun i => fbA A (i - n)) g h := by
  have hB : ∀ t, ∀ j, j < 4 → (fun i => fbA A (i - n)) (n + 4 * t + j) = b8 (A t >>> (nI (24 - 8 * j) &&& 31)) := fun t j hj => by
    show b8 _ = _
    rw [show n + 4 * t + j - n = 4 * t + j by omega, show (4 * t + j) / 4 = t by omega, show (4 * t + j) % 4 = j by omega]
  obtain ⟨k1, w1, a1⟩ := e_put (A 0) (B := fun i => fbA A (i - n)) (n := n + 4 * 0) (by omega) h1 (hB 0)
  obtain ⟨k2, w2, a2⟩ := e_put (A 1) (B := fun i => fbA A (i - n)) (n := n + 4 * 1) (by omega) a1.1 (hB 1)
  obtain ⟨k3, w3, a3⟩ := e_put (A 2) (B := fun i => fbA A (i - n)) (n := n + 4 * 2) (by omega) a2.1 (hB 2)
  obtain ⟨k4, w4, a4⟩ := e_put (A 3) (B := fun i => fbA A (i - n)) (n := n + 4 * 3) (by omega) a3.1 (hB 3)
  obtain ⟨k5, w5, a5⟩ := e_put (A 4) (B := fun i => fbA A (i - n)) (n := n + 4 * 4) (by omega) a4.1 (hB 4)
  refine ⟨k5, ?_, pu_tr (by omega) a1 (pu_tr (by omega) a2 (pu_tr (by omega) a3 (pu_tr (by omega) a4 a5)))⟩
  unfold nX10_feed nX9_hasRoom
  rw [h1, show nI n + 20 = nI (n + 20) from nN_add n 20, if_neg (show ¬ (400 : Int32) < nI (n + 20) from fun q => by have := (nN_lt (a := 400) (by omega) (by omega)).mp q; omega), Option.bind_some, if_neg n01, w1, Option.bind_some, w2, Option.bind_some, w3, Option.bind_some, w4, Option.bind_some, w5, Option.bind_some, a5.1]
/-- the tape after feed -/
def fdT (tn : Nat) (tb : Nat → Nat) (A : Nat → Int32) (k : Nat) : Nat := if k < tn then tb k else fbA A (k - tn)
theorem cI_pu {tn' : Nat} {tb' : Nat → Nat} (hc : cI S g) (a : fr (fun c => c == 1 || c == 2) g h) (p : cTp tn' tb' h) : cI (S.1, S.2.1, tn', tb', S.2.2.2.2) h := by
  obtain ⟨p1, p2, p3, p4, p5, p6, p7⟩ := hc
  refine ⟨p1, cPn_fr (K := fun c => c == 1 || c == 2) (fun c hc => ?_) a p2, cRw_eq (a.1 31 rfl).1 (a.1 32 rfl).1 (a.1 33 rfl).1 p3, p, cWr_eq (by rw [(a.1 0 rfl).1]) (a.1 41 rfl).1 (a.1 15 rfl).1 p5, by rw [(a.1 0 rfl).1]; exact p6, bKn_eq (a.1 26 rfl).1 (a.1 27 rfl).1 a.2.2 p7⟩
  rw [Bool.or_eq_false_iff, beq_eq_false_iff_ne, beq_eq_false_iff_ne]
  omega
theorem fr_12 (a : fr (fun c => c == 1 || c == 2) g h) : fr kN g h := fr_le (fun c hc => by
  rw [Bool.or_eq_false_iff, beq_eq_false_iff_ne, beq_eq_false_iff_ne]
  unfold kN at hc
  rw [Bool.or_eq_false_iff, decide_eq_false_iff_not] at hc
  omega) a
theorem m_feed (A : Nat → Int32) {tn : Nat} {tb : Nat → Nat} (hn : tn + 20 ≤ 400) (hT : mTp tn tb g) : ∃ k, nX11_feed (A 0) (A 1) (A 2) (A 3) (A 4) g = some (nI (tn + 20), k) ∧ mTp (tn + 20) (fdT tn tb A) k ∧ mw (fun c k => (c = 42 ∧ (k = 0 ∨ k = 2)) ∨ c = 43) g k := by
  have h2 : (zi g 42 0 0).1 42 2 = nI tn := by rw [zi_else _ _ (by decide), hT.1]
  have hz := hT.2
  have key : ∃ r : Int32 × zS, wh (wX11_feed_23 (A 0) (A 1) (A 2) (A 3) (A 4)) ((0 : Int32), zi g 42 0 0) = some r ∧ (r.1 = nI (tn + 20) ∧ mTp (tn + 20) (fdT tn tb A) r.2 ∧ mw (fun c k => (c = 42 ∧ (k = 0 ∨ k = 2)) ∨ c = 43) g r.2) := by
    refine wh_up (fun i (s : Int32 × zS) => s.1 = nI i ∧ mTp (tn + i) (fdT tn tb A) s.2 ∧ mw (fun c k => (c = 42 ∧ (k = 0 ∨ k = 2)) ∨ c = 43) g s.2) (fun (r : Int32 × zS) => r.1 = nI (tn + 20) ∧ mTp (tn + 20) (fdT tn tb A) r.2 ∧ mw (fun c k => (c = 42 ∧ (k = 0 ∨ k = 2)) ∨ c = 43) g r.2) 20 ?_ ?_ ⟨rfl, ⟨h2, fun k hk => ?_⟩, mw_zi (W := fun c k => (c = 42 ∧ (k = 0 ∨ k = 2)) ∨ c = 43) (Or.inl ⟨rfl, Or.inl rfl⟩) g 0⟩
    · intro i s hi ⟨a1, a2, a3⟩
      have hstep : wX11_feed_23 (A 0) (A 1) (A 2) (A 3) (A 4) s = jX11_feed_76 (A 0) (A 1) (A 2) (A 3) (A 4) (nI i) (A (i / 4)) s.2 := by
        unfold wX11_feed_23
        rw [a1, if_neg (show ¬ (20 : Int32) ≤ nI i from fun q => by have := (nN_le (a := 20) (by omega) (by omega)).mp q; omega)]
        have c : ∀ m : Nat, m < 100 → ((nI m ≤ nI i) ↔ m ≤ i) := fun m hm => nN_le (by omega) (by omega)
        by_cases c4 : 4 ≤ i
        · rw [if_pos (show (4 : Int32) ≤ nI i from (c 4 (by omega)).mpr c4)]
          by_cases c8 : 8 ≤ i
          · rw [if_pos (show (8 : Int32) ≤ nI i from (c 8 (by omega)).mpr c8)]
            by_cases c12 : 12 ≤ i
            · rw [if_pos (show (12 : Int32) ≤ nI i from (c 12 (by omega)).mpr c12)]
              by_cases c16 : 16 ≤ i
              · rw [if_pos (show (16 : Int32) ≤ nI i from (c 16 (by omega)).mpr c16), show i / 4 = 4 by omega]
              · rw [if_neg (show ¬ (16 : Int32) ≤ nI i from fun q => c16 ((c 16 (by omega)).mp q)), show i / 4 = 3 by omega]
            · rw [if_neg (show ¬ (12 : Int32) ≤ nI i from fun q => c12 ((c 12 (by omega)).mp q)), show i / 4 = 2 by omega]
          · rw [if_neg (show ¬ (8 : Int32) ≤ nI i from fun q => c8 ((c 8 (by omega)).mp q)), show i / 4 = 1 by omega]
        · rw [if_neg (show ¬ (4 : Int32) ≤ nI i from fun q => c4 ((c 4 (by omega)).mp q)), show i / 4 = 0 by omega]
      have hsh : (24 : Int32) - (8 : Int32) * (nI i - nI i / 4 * 4) = nI (24 - 8 * (i % 4)) := by
        have : ∀ i, i < 20 → (24 : Int32) - (8 : Int32) * (nI i - nI i / 4 * 4) = nI (24 - 8 * (i % 4)) := by decide
        exact this i hi
      rw [hstep]
      unfold jX11_feed_76
      rw [a2.1, zchk_t (zin_nI (by omega) (by omega)), nI_cl (by omega), hsh]
      refine ⟨_, rfl, nI_s i, ⟨?_, fun k hk => ?_⟩, mw_tr a3 (mw_tr (mw_zi (Or.inr rfl) _ _) (mw_zi (by omega) _ _))⟩
      · rw [zi_at, zi_else _ _ (by omega), a2.1, nI_s, show tn + i + 1 = tn + (i + 1) by omega]
      · rw [zi_else _ _ (by omega)]
        by_cases q : k = tn + i
        · rw [q, zi_at, b8_eq]
          unfold fdT fbA
          rw [if_neg (by omega), show tn + i - tn = i by omega]
        · rw [zi_else _ _ (by omega)]
          exact a2.2 k (by omega)
    · intro s ⟨a1, a2, a3⟩
      unfold wX11_feed_23
      rw [a1, if_pos (show (20 : Int32) ≤ nI 20 by decide), a2.1]
      exact ⟨_, rfl, rfl, a2, a3⟩
    · rw [zi_else _ _ (by omega), hz k hk]
      unfold fdT
      rw [if_pos (show k < tn from hk)]
  obtain ⟨⟨r1, r2⟩, w, e, b1, b2⟩ := key
  refine ⟨r2, ?_, b1, b2⟩
  unfold nX11_feed
  rw [h2, show nI tn + 20 = nI (tn + 20) from nN_add tn 20, if_pos (show nI (tn + 20) ≤ (400 : Int32) from (nN_le (b := 400) (by omega) (by omega)).mpr hn), w, ← e]
theorem rI_mw {P : zPl} {H : Nat × (Nat → Nat) × Nat × (Nat → Nat) × (Nat → Nat → Nat)} {tn wn fl : Nat} {tb wb : Nat → Nat} (p1 : mPn P g) (p2 : mRw P H g) (p3 : mTp tn tb g) (p4 : mWr wn wb g) (p5 : g.1 42 5 = fI fl) : rI (P, H, tn, tb, wn, wb, fl) g := ⟨p1, p2, p3, p4, p5⟩
theorem s_0 (a : Nat → Int32) (hv : Iv g) : ∃ r, nS_0 a g = some r ∧ Iv r := by
  obtain ⟨S, hc, hm⟩ := hv
  obtain ⟨hO, hPn, hRw, hT, hWr, hFl, hB⟩ := id hc
  by_cases c : S.2.2.1 + 20 ≤ 400
  · unfold nS_0
    refine st_vd (S := S) (S' := (S.1, S.2.1, S.2.2.1 + 20, fdT S.2.2.1 S.2.2.2.1 (fun j => a (j + 1)), S.2.2.2.2)) (L := nX10_feed (a 1) (a 2) (a 3) (a 4) (a 5)) (M := nX11_feed (a 1) (a 2) (a 3) (a 4) (a 5)) (an := nI (S.2.2.1 + 20)) hm ?_ ?_
    · obtain ⟨h, w, b1, b2, b3, b4⟩ := e_feed (A := fun j => a (j + 1)) c hT.1
      refine ⟨h, w, fr_12 b4, cI_pu hc b4 ⟨b1, c, fun k hk => ?_⟩⟩
      unfold fdT
      by_cases q : k < S.2.2.1
      · rw [if_pos q, b2 k q]
        exact hT.2.2 k q
      · rw [if_neg q]
        exact ⟨b3 k (by omega) hk, b8_lt _⟩
    · intro h hm2
      obtain ⟨p1, ⟨p2, p3⟩, p4, p5, p6⟩ := hm2
      obtain ⟨k, w, b1, b2⟩ := m_feed (fun j => a (j + 1)) c p4
      refine ⟨k, w, mw_fr (fun c k q => by omega) b2, mPn_mw (fun c k q => by omega) b2 p1, ⟨mR_mw (fun c k q => by omega) b2 p2, mH_mw (fun c k q => by omega) b2 p3⟩, b1, mWr_mw (fun c k q => by omega) b2 p5, ?_⟩
      rw [b2.1 42 5 (by omega)]
      exact p6
  · unfold nS_0
    refine st_d (S := S) (L := nX10_feed (a 1) (a 2) (a 3) (a 4) (a 5)) (M := nX11_feed (a 1) (a 2) (a 3) (a 4) (a 5)) (an := -1) hc hm ?_ ?_
    · refine ⟨g, ?_, fr_rfl _ _⟩
      unfold nX10_feed nX9_hasRoom
      have := hT.2.1
      rw [hT.1, show nI S.2.2.1 + 20 = nI (S.2.2.1 + 20) from nN_add _ 20, if_pos (show (400 : Int32) < nI (S.2.2.1 + 20) from (nN_lt (a := 400) (by omega) (by omega)).mpr (by omega)), Option.bind_some, if_pos rfl]
    · intro h hm2
      obtain ⟨p1, ⟨p2, p3⟩, p4, p5, p6⟩ := hm2
      refine ⟨zi h 42 0 0, ?_, sc_42 h 0⟩
      unfold nX11_feed
      have := hT.2.1
      rw [zi_else _ _ (by decide), p4.1, show nI S.2.2.1 + 20 = nI (S.2.2.1 + 20) from nN_add _ 20, if_neg (show ¬ nI (S.2.2.1 + 20) ≤ (400 : Int32) from fun q => by have := (nN_le (b := 400) (by omega) (by omega)).mp q; omega)]
theorem s_1 (a : Nat → Int32) (hv : Iv g) : ∃ r, nS_1 a g = some r ∧ Iv r := by
  obtain ⟨S, hc, hm⟩ := hv
  obtain ⟨hO, hPn, hRw, hT, hWr, hFl, hB⟩ := id hc
  have h400 := hT.2.1
  unfold nS_1
  rcases ix2 (a 1) (n := S.2.2.1 + 1) (by omega) with ⟨i, hi, e1⟩ | hno
  · rw [e1]
    refine st_vd (S := S) (S' := (S.1, S.2.1, i, S.2.2.2.1, S.2.2.2.2)) (L := nX10_end (nI i)) (M := nX11_end (nI i)) (an := 1) hm ?_ ?_
    · have b4 : fr (fun c => c == 1 || c == 2) g (zi g 1 1 (nI i)) := fr_zi rfl _ _ _
      refine ⟨zi g 1 1 (nI i), ?_, fr_12 b4, cI_pu hc b4 ⟨zi_at _ _ _ _, by omega, fun k hk => ?_⟩⟩
      · unfold nX10_end
        rw [if_neg (nI_nn (by omega)), hT.1, if_pos ((nN_le (by omega) (by omega)).mpr (by omega))]
      · rw [zi_cell _ _ (by omega)]
        exact hT.2.2 k (Nat.lt_of_lt_of_le hk (by show i ≤ _; omega))
    · intro h hm2
      obtain ⟨p1, ⟨p2, p3⟩, p4, p5, p6⟩ := hm2
      have b2 : mw (fun c k => c = 42 ∧ (k = 0 ∨ k = 2)) h (zi (zi h 42 0 0) 42 2 (nI i)) := mw_tr (mw_zi (by omega) _ _) (mw_zi (by omega) _ _)
      refine ⟨_, ?_, mw_fr (fun c k q => by omega) b2, mPn_mw (fun c k q => by omega) b2 p1, ⟨mR_mw (fun c k q => by omega) b2 p2, mH_mw (fun c k q => by omega) b2 p3⟩, ⟨zi_at _ _ _ _, fun k hk => ?_⟩, mWr_mw (fun c k q => by omega) b2 p5, ?_⟩
      · unfold nX11_end
        rw [if_neg (nI_nn (by omega)), zi_else _ _ (by decide), p4.1, if_pos ((nN_le (by omega) (by omega)).mpr (by omega))]
      · rw [b2.1 43 k (by omega)]
        exact p4.2 k (Nat.lt_of_lt_of_le hk (by show i ≤ _; omega))
      · rw [b2.1 42 5 (by omega)]
        exact p6
  · refine st_d (S := S) (L := nX10_end (a 1)) (M := nX11_end (a 1)) (an := 0) hc hm ?_ ?_
    · refine ⟨g, ?_, fr_rfl _ _⟩
      unfold nX10_end
      rcases hno with q | q
      · rw [if_pos q]
      · rw [if_neg q.1, hT.1, if_neg (fun e => nIx_lt (Or.inr q) ⟨q.1, Int32.lt_of_le_of_lt e ((nN_lt (by omega) (by omega)).mpr (Nat.lt_succ_self _))⟩)]
    · intro h hm2
      obtain ⟨p1, ⟨p2, p3⟩, p4, p5, p6⟩ := hm2
      refine ⟨zi h 42 0 0, ?_, sc_42 h 0⟩
      unfold nX11_end
      rw [zi_else _ _ (by decide), p4.1]
      rcases hno with q | q
      · rw [if_pos q]
      · rw [if_neg q.1, if_neg (fun e => nIx_lt (Or.inr q) ⟨q.1, Int32.lt_of_le_of_lt e ((nN_lt (by omega) (by omega)).mpr (Nat.lt_succ_self _))⟩)]
end S7
