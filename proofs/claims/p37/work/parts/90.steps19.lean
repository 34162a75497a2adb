
/-! ===== steps: boxes, box (given that no text has more than 30000 of them) ===== -/
/-- a plan has no more than 30000 greatest boxes -/
def BD (P : zPl) : Prop := ∀ X, X ≤ 33554432 → cnt (gK P) X ≤ 30000
/-- how many boxes a plan has; the one of a number -/
noncomputable def nB (P : zPl) : Nat := cnt (gK P) 33554432
theorem nB_le {P : zPl} (hO : pOK P) : nB P ≤ 923521 := gK_many hO (Nat.le_refl _)
theorem cnt_sel {p : Nat → Bool} : ∀ C i, i < cnt p C → ∃ Y, Y < C ∧ p Y = true ∧ cnt p Y = i
  | 0, i, h => absurd h (Nat.not_lt_zero i)
  | C + 1, i, h => by
    rw [cnt_s] at h
    by_cases c : i < cnt p C
    · obtain ⟨Y, h1, h2, h3⟩ := cnt_sel C i c
      exact ⟨Y, by omega, h2, h3⟩
    · by_cases q : p C = true
      · rw [if_pos q] at h
        exact ⟨C, by omega, q, by omega⟩
      · rw [if_neg q] at h
        exact absurd h c
noncomputable def bX (P : zPl) (i : Nat) : Nat := @dite Nat (∃ Y, Y < 33554432 ∧ gK P Y = true ∧ cnt (gK P) Y = i) (Classical.propDecidable _) (fun h => h.choose) (fun _ => 0)
theorem bX_spec {P : zPl} {i : Nat} (h : i < nB P) : bX P i < 33554432 ∧ gK P (bX P i) = true ∧ cnt (gK P) (bX P i) = i := by
  have e := cnt_sel _ _ h
  unfold bX
  rw [dif_pos e]
  exact e.choose_spec
def Wly (c k : Nat) : Prop := (c = 42 ∧ (k = 0 ∨ k = 29)) ∨ c = 59 ∨ c = 60
section S19
variable {S S' : zSt} {g h k : zS} {P : zPl}
theorem ly_mw (a : lyB g h) : mw Wly g h := ⟨fun c k hk => by
  unfold Wly at hk
  by_cases q : c = 42
  · rw [q]; exact a.2.1 k (by omega)
  · rw [a.1 c q (by omega) (by omega)], a.2.2⟩
theorem mL_mw {W : Nat → Nat → Prop} {X : Nat} (q : ∀ c k, W c k → c ≠ 59 ∧ (c = 42 → k ≠ 29)) (a : mw W g h) (p : mL P X g) : mL P X h := by
  unfold mL at p ⊢
  rw [a.1 42 29 (fun w => (q _ _ w).2 rfl rfl), show h.1 59 = g.1 59 from funext fun k => a.1 59 k (fun w => (q _ _ w).1 rfl)]
  exact p
theorem rI_ly (hm : rI S g) (a : mw Wly g h) (q : mL S.1 33554432 h) : rI S h := by
  obtain ⟨⟨p1, p2, p3, p4⟩, ⟨p5, p6⟩, p7, p8, p9⟩ := hm
  have e : ∀ c, c ≠ 42 → c ≠ 59 → c ≠ 60 → h.1 c = g.1 c := fun c h1 h2 h3 => funext fun k => a.1 c k (fun w => by unfold Wly at w; omega)
  have f : ∀ k, k ≠ 0 → k ≠ 29 → h.1 42 k = g.1 42 k := fun k h1 h2 => a.1 42 k (fun w => by unfold Wly at w; omega)
  refine ⟨⟨?_, ?_, ?_, Or.inr q⟩, ⟨mR_mw (fun c k q => by unfold Wly at q; omega) a p5, mH_mw (fun c k q => by unfold Wly at q; omega) a p6⟩, mTp_mw (fun c k q => by unfold Wly at q; omega) a p7, mWr_mw (fun c k q => by unfold Wly at q; omega) a p8, by rw [f 5 (by omega) (by omega)]; exact p9⟩
  · unfold mP at p1 ⊢
    rw [f 16 (by omega) (by omega), f 17 (by omega) (by omega), f 19 (by omega) (by omega), e 51 (by omega) (by omega) (by omega), e 52 (by omega) (by omega) (by omega), e 53 (by omega) (by omega) (by omega), e 54 (by omega) (by omega) (by omega), e 58 (by omega) (by omega) (by omega)]
    exact p1
  · unfold mF at p2 ⊢
    rw [e 56 (by omega) (by omega) (by omega), e 57 (by omega) (by omega) (by omega)]
    exact p2
  · unfold mNm at p3 ⊢
    rw [a.2]
    exact p3
theorem ly_R (a : mw Wly g h) : fr kRf g h := mw_fr (fun c k q => by unfold Wly at q; omega) a
/-- the reference lays its boxes -/
theorem m_boxes (hO : pOK S.1) (hm : rI S g) : ∃ k, nX11_laysBoxes g = some k ∧ mw Wly g k ∧ rI S k ∧ mL S.1 33554432 k ∧ k.1 42 0 = g.1 42 0 := by
  obtain ⟨⟨p1, p2, p3, p4⟩, _⟩ := id hm
  obtain ⟨k, w, a1, a2⟩ := m_laysBoxes hO p1 p2 p4
  exact ⟨k, w, ly_mw a1, rI_ly hm (ly_mw a1) a2, a2, a1.2.1 0 (by omega)⟩
theorem rI_42 (s : Int32) (hm : rI S g) : rI S (zi g 42 0 s) := rI_sc (sc_42 g s) hm
theorem mL_42 (s : Int32) {X : Nat} (p : mL P X g) : mL P X (zi g 42 0 s) := mL_mw (W := fun c k => c = 42 ∧ k = 0) (fun c k q => by omega) (mw_zi ⟨rfl, rfl⟩ _ _) p
theorem mL_n (hBD : BD P) (hO : pOK P) (p : mL P 33554432 g) : g.1 42 29 = nI (nB P) ∧ nB P ≤ 30000 := by
  have h := hBD 33554432 (Nat.le_refl _)
  refine ⟨?_, h⟩
  rw [p.1, Nat.min_eq_left h]
  rfl
theorem mL_at (hBD : BD P) (hO : pOK P) (p : mL P 33554432 g) {i f : Nat} (hi : i < nB P) (hf : f < 5) : g.1 59 (5 * i + f) = nI (bk (bX P i) f) := by
  obtain ⟨b1, b2, b3⟩ := bX_spec hi
  have h : nB P ≤ 30000 := hBD 33554432 (Nat.le_refl _)
  have := p.2 (bX P i) b1 b2 (by rw [b3]; omega) f hf
  rw [b3] at this
  exact this
theorem gK_spec {X : Nat} (h : gK P X = true) : pn P ≠ 0 ∧ (∀ f, pn P ≤ f → f < 5 → bk X f = 1) ∧ gB P (bk X) := dB_t.mp h
theorem e_setOf (hO : pOK P) (hF : lF P 33554432 g) {i f : Nat} (hi : i < nB P) (hf : f < pn P) : nX0_setOf (nI i) (nI f) g = some (nI (bk (bX P i) f)) := by
  have h5 := hO.1
  obtain ⟨f1, f2, f3, f4, f6⟩ := hF
  obtain ⟨b1, b2, b3⟩ := bX_spec hi
  have e := f6 _ b1 b2
  rw [b3] at e
  have f2' : nB P ≤ g.2.2.2 := f2
  have hl : enC (bk (bX P i)) (pn P) < 2147483648 := by
    have h1 := enC_lt (B := bk (bX P i)) (pn P) (fun i _ => bk_lt _ _)
    have h2 : 2 ^ (5 * pn P) ≤ 2 ^ 25 := Nat.pow_le_pow_right (by omega) (by omega)
    omega
  unfold nX0_setOf
  rw [zchk_t (zin_nI (by omega) (by omega)), nI_cl (by omega), e, show (5 : Int32) * nI f = nI (5 * f) from nI_mul 5 f, nI_shr hl (by omega), show (31 : Int32) = nI 31 from rfl, nI_and, enC_get (fun i _ => bk_lt _ _) hf]
/-- the class's state where found may have grown -/
theorem cI_fz {K : Nat → Bool} (hK : ∀ c, kQ c = false → K c = true → 26 ≤ c ∧ c ≤ 30) (a : fz K g h) (hb : bKn S.1 h) (p : cI S g) : cI S h := by
  obtain ⟨p1, p2, p3, p4, p5, p6, p7⟩ := p
  have hk : ∀ c, kQ c = false → (c < 26 ∨ 30 < c) → K c = false := fun c h1 h2 => by
    cases e : K c with
    | false => rfl
    | true => have := hK c h1 e; omega
  have e : ∀ c, kQ c = false → (c < 26 ∨ 30 < c) → h.1 c = g.1 c := fun c hc h2 => (a.1 c (hk c hc h2)).1
  have hd : ∀ c, c < 24 → kQ c = false := by decide
  exact ⟨p1, cPn_fz (K := K) (fun c hc => hk c (hd c (by omega)) (by omega)) a p2, cRw_eq (e 31 rfl (by omega)) (e 32 rfl (by omega)) (e 33 rfl (by omega)) p3, cTp_eq (e 1 rfl (by omega)) (e 2 rfl (by omega)) p4, cWr_eq (by rw [e 0 rfl (by omega)]) (e 41 rfl (by omega)) (e 15 rfl (by omega)) p5, by rw [e 0 rfl (by omega)]; exact p6, hb⟩
theorem cI_size (hc : cI S g) : ∃ h, nX0_size g = some (nI (nB S.1), h) ∧ fz kBx g h ∧ cI S h ∧ lF S.1 33554432 h ∧ nX0_size h = some (nI (nB S.1), h) := by
  obtain ⟨hO, ⟨hP, hE, _⟩, _, _, _, _, hB⟩ := id hc
  obtain ⟨h, w, a1, a2, a3⟩ := e_size hO hP hE (fun X hX => Nat.le_trans (gK_many hO hX) (by omega)) hB
  refine ⟨h, w, a1, cI_fz (K := kBx) (fun c _ hk => ?_) a1 (Or.inr ⟨a2, a3⟩) hc, a3, ?_⟩
  · unfold kBx at hk
    rw [Bool.and_eq_true, decide_eq_true_eq, decide_eq_true_eq] at hk
    exact hk
  · unfold nX0_size
    rw [a2, if_neg n01, a3.1]
    rfl
theorem kBx_N (a : fz kBx g h) : fz kN g h := fz_le (fun c hc => by
  unfold kN at hc
  rw [Bool.or_eq_false_iff, decide_eq_false_iff_not] at hc
  unfold kBx
  rw [Bool.and_eq_false_iff, decide_eq_false_iff_not, decide_eq_false_iff_not]
  omega) a
/-- a call of the class that may look for the boxes -/
def cZ (L : zS → Option (Int32 × zS)) (S : zSt) (g : zS) (cd an : Int32) : Prop := ∃ h, L g = some (cd, h) ∧ fz kN g h ∧ cI S h ∧ (cd = 0 → h.2.1 72 0 = an.toInt64)
theorem st_z {L M : zS → Option (Int32 × zS)} {cd an : Int32} (hm : rI S g) (q1 : cZ L S g cd an) (q2 : mV M S S cd an) : ∃ r, ((L g).bind fun v1 => zchk (decide (g.2.2.2 ≤ v1.2.2.2.2)) ((M v1.2).bind fun v2 => zchk (decide (v2.2.2.2.2 = v1.2.2.2.2)) ((nX11_thrown v2.2).bind fun v3 => if v3 = v1.1 then (if v1.1 = 0 then (if (lg_cmp (v2.2.2.1 72 (0 : Int32).toNatClampNeg) v2.1.toInt64) = 0 then (some v2.2) else (none)) else (some v2.2)) else (none)))) = some r ∧ Iv r := by
  obtain ⟨h, w1, a1, hc1, a2⟩ := q1
  have hm1 : rI S h := rI_fz (K := kN) (fun c h1 h2 => kN_R h1 h2) a1 hm
  obtain ⟨k, an', w2, b1, hm2, b2, b3⟩ := q2 h hm1
  refine ⟨k, ?_, S, cI_fr kQ_R b1 hc1, hm2⟩
  rw [w1, Option.bind_some, zchk_t (decide_eq_true a1.2.2)]
  dsimp only
  rw [w2, Option.bind_some, zchk_t (decide_eq_true b1.2.2)]
  unfold nX11_thrown
  rw [Option.bind_some, b2, if_pos rfl]
  by_cases c : cd = 0
  · rw [if_pos c, if_pos]
    rw [b3 c, (b1.1 72 rfl).2, show (0 : Int32).toNatClampNeg = 0 from rfl, a2 c]
    exact lg_rfl _
  · rw [if_neg c]
theorem cZ_ls {X : zS → Option ((Int32 ⊕ String) × zS)} {E : String → zS → Option (Int32 × zS)} {w : Int32} (q : X g = some (.inl w, h)) (a : fz kN g h) (p : cI S h) : cZ (fun g => (X g).bind fun v => zel2 v (fun w g2 => some ((0 : Int32), (zl g2 72 (0 : Int32).toNatClampNeg w.toInt64))) (fun e g2 => E e g2)) S g 0 w := by
  refine ⟨_, by dsimp only; rw [q, Option.bind_some]; rfl, fz_tr a (fz_fr (fr_zl rfl _ _ _)), cI_72 _ p, fun _ => zl_at _ _ _ _⟩
theorem cZ_rs {X : zS → Option ((Int32 ⊕ String) × zS)} {E : String → zS → Option (Int32 × zS)} {e : String} {cd an : Int32} (q : X g = some (.inr e, h)) (a : fz kN g h) (p : cI S h) (hE : E e h = some (cd, h)) (hcd : cd ≠ 0) : cZ (fun g => (X g).bind fun v => zel2 v (fun w g2 => some ((0 : Int32), (zl g2 72 (0 : Int32).toNatClampNeg w.toInt64))) (fun e g2 => E e g2)) S g cd an := by
  refine ⟨h, by dsimp only; rw [q, Option.bind_some]; exact hE, a, p, fun k => absurd k hcd⟩
theorem s_10 (hBD : ∀ S, cI S g → BD S.1) (a : Nat → Int32) (hv : Iv g) : ∃ r, nS_10 a g = some r ∧ Iv r := by
  obtain ⟨S, hc, hm⟩ := hv
  replace hBD := hBD S hc
  have hO := hc.1
  obtain ⟨h, w, a1, hc1, a2, _⟩ := cI_size hc
  have hm1 : rI S h := rI_fz (K := kBx) (fun c h1 h2 => by
    unfold kBx
    rw [decide_eq_false (show ¬ c ≤ 30 by omega), Bool.and_false]) a1 hm
  obtain ⟨k, w2, b1, hm2, b2, b3⟩ := m_boxes hO (rI_42 0 hm1)
  have b4 : mw Wly h k := mw_tr (mw_zi (Or.inl ⟨rfl, Or.inl rfl⟩) _ _) b1
  have b5 := ly_R b4
  refine ⟨k, ?_, S, cI_fr kQ_R b5 hc1, hm2⟩
  unfold nS_10 nX10_boxes
  rw [w, Option.bind_some, zchk_t (decide_eq_true a1.2.2), Option.bind_some, zchk_t (decide_eq_true a1.2.2)]
  unfold nX11_boxes
  rw [w2, Option.bind_some, Option.bind_some, zchk_t (decide_eq_true b5.2.2), if_pos (mL_n hBD hO b2).1.symm]
theorem e_needBox (hc : cI S g) {i : Nat} (hi : i < nB S.1) : ∃ h, nX10_needBox (nI i) g = some (.inl (), h) ∧ fz kBx g h ∧ cI S h ∧ lF S.1 33554432 h := by
  obtain ⟨h, w, a1, hc1, a2, _⟩ := cI_size hc
  have hb : nB S.1 ≤ 923521 := nB_le hc.1
  refine ⟨h, ?_, a1, hc1, a2⟩
  unfold nX10_needBox
  rw [if_neg (nI_nn (by omega)), w, Option.bind_some, zchk_t (decide_eq_true a1.2.2), if_pos ((nN_lt (by omega) (by omega)).mpr hi)]
theorem e_needBoxN (hc : cI S g) {x : Int32} (hx : nIx x (nB S.1)) : ∃ h, nX10_needBox x g = some (.inr "java/util/NoSuchElementException", h) ∧ fz kBx g h ∧ cI S h := by
  unfold nX10_needBox jX10_needBox_15
  by_cases c : x < 0
  · rw [if_pos c]
    exact ⟨g, rfl, fz_fr (fr_rfl _ _), hc⟩
  · obtain ⟨h, w, a1, hc1, a2, _⟩ := cI_size hc
    rw [if_neg c, w, Option.bind_some, zchk_t (decide_eq_true a1.2.2), if_neg (fun e => nIx_lt hx ⟨c, e⟩)]
    exact ⟨h, rfl, a1, hc1⟩
theorem e_entering (hO : pOK P) (hP : cP P g) (hF : lF P 33554432 g) {i : Nat} (hi : i < nB P) : nX0_entering (nI i) g = some (nI (bS (fun f => bk (bX P i) f != 2 ^ pq P f - 1) (pn P))) := by
  have h5 := hO.1
  unfold nX0_entering
  refine wh_seq (fun f => (nI (bS (fun f => bk (bX P i) f != 2 ^ pq P f - 1) f), nI f)) (pn P) (fun f hf => ?_) ?_
  · have hq := (hO.2.1 f hf).2.1
    have h1 : 2 ^ pq P f ≤ 32 := Nat.pow_le_pow_right (n := 2) (by omega) (show pq P f ≤ 5 from hq)
    have h2 := bk_lt (bX P i) f
    have hs : bS (fun f => bk (bX P i) f != 2 ^ pq P f - 1) (f + 1) = if (bk (bX P i) f != 2 ^ pq P f - 1) = true then bS (fun f => bk (bX P i) f != 2 ^ pq P f - 1) f ||| 2 ^ f else bS (fun f => bk (bX P i) f != 2 ^ pq P f - 1) f := rfl
    dsimp only [wX0_entering_4]
    rw [hP.1, if_neg (fun q => by rw [nN_le (by omega) (by omega)] at q; omega), e_setOf hO hF hi hf, Option.bind_some, e_allValues hO hP hf, Option.bind_some, hs, nI_s]
    by_cases q : bk (bX P i) f = 2 ^ pq P f - 1
    · rw [if_pos (by rw [q]), if_neg (by rw [bne_iff_ne]; exact fun e => e q)]
    · rw [if_neg (fun e => q ((nN_eq (by omega) (by omega)).mp e)), if_pos (by rw [bne_iff_ne]; exact q), nI_shl (by omega), nI_or]
  · dsimp only [wX0_entering_4]
    rw [hP.1, if_pos (Int32.le_refl _)]
    rfl
theorem m_enters (hBD : BD P) (hO : pOK P) (hM : mP P g) (hL : mL P 33554432 g) {i : Nat} (hi : i < nB P) : nX11_enters (nI i) g = some (nI (bS (fun f => bk (bX P i) f != 2 ^ pq P f - 1) (pn P))) := by
  have h5 := hO.1
  have hb : nB P ≤ 30000 := hBD 33554432 (Nat.le_refl _)
  unfold nX11_enters
  refine wh_seq (fun f => (nI (bS (fun f => bk (bX P i) f != 2 ^ pq P f - 1) f), nI f)) (pn P) (fun f hf => ?_) ?_
  · have hq := (hO.2.1 f hf).2.1
    have h1 : 2 ^ pq P f ≤ 32 := Nat.pow_le_pow_right (n := 2) (by omega) (show pq P f ≤ 5 from hq)
    have h2 := bk_lt (bX P i) f
    have hs : bS (fun f => bk (bX P i) f != 2 ^ pq P f - 1) (f + 1) = if (bk (bX P i) f != 2 ^ pq P f - 1) = true then bS (fun f => bk (bX P i) f != 2 ^ pq P f - 1) f ||| 2 ^ f else bS (fun f => bk (bX P i) f != 2 ^ pq P f - 1) f := rfl
    dsimp only [wX11_enters_4]
    rw [hM.1, if_neg (fun q => by rw [nN_le (by omega) (by omega)] at q; omega), show (5 : Int32) * nI i = nI (5 * i) from nI_mul 5 i, nN_add, zchk_t (zin_nI (by omega) (by omega)), m_all hO hM (by omega), Option.bind_some, nI_cl (by omega), mL_at hBD hO hL hi (by omega), mq_in hf, hs, nI_s]
    by_cases q : bk (bX P i) f = 2 ^ pq P f - 1
    · rw [if_pos (by rw [q]), if_neg (by rw [bne_iff_ne]; exact fun e => e q), Int32.or_zero]
    · rw [if_neg (fun e => q ((nN_eq (by omega) (by omega)).mp e)), if_pos (by rw [bne_iff_ne]; exact q), nI_shl (by omega), nI_or]
  · dsimp only [wX11_enters_4]
    rw [hM.1, if_pos (Int32.le_refl _)]
    rfl
end S19
