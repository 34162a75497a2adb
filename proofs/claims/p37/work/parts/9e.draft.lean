
/-! ===== read: what is drafted; a told field ===== -/
section Df
variable {g h k : zS} {tn : Nat} {tb : Nat → Nat} {s p : Nat} {P : zPl} {N : Nat} {r : Nat → Nat}
/-- the class's draft; the reference's -/
def cDf (P : zPl) (N : Nat) (r : Nat → Nat) (g : zS) : Prop := g.1 11 0 = nI (pn P) ∧ (∀ f, f < pn P → g.1 12 f = nI (pq P f)) ∧ (∀ f, f < pn P → g.1 13 f = nI (pw P f)) ∧ (∀ f, f < pn P → g.1 14 f = nI (ps P f)) ∧ g.1 11 6 = gI (pg P) ∧ g.1 11 7 = nI (pm P) ∧ (∀ e, e < pm P → ∀ f, f < pn P → g.1 17 (e * 5 + f) = nI (pE P e f)) ∧ (∀ f, f < pn P → g.1 16 f = nI (pl P f).length ∧ ∀ k, k < (pl P f).length → g.1 15 (f * 6 + k) = nI ((pl P f).getD k 0)) ∧ g.1 11 9 = nI N ∧ N ≤ 40 ∧ ∀ k, k < N → g.1 18 k = nI (r k) ∧ rOK P (r k)
def mDf (P : zPl) (N : Nat) (r : Nat → Nat) (g : zS) : Prop := g.1 42 6 = nI (pn P) ∧ g.1 42 7 = nI (pm P) ∧ g.1 42 8 = nI N ∧ g.1 42 9 = gI (pg P) ∧ (∀ f, f < pn P → g.2.1 44 f = nL (nmL (pl P f))) ∧ (∀ f, f < pn P → g.1 45 f = nI (pq P f)) ∧ (∀ f, f < pn P → g.1 46 f = nI (pw P f)) ∧ (∀ f, f < pn P → g.1 47 f = nI (ps P f)) ∧ (∀ e, e < pm P → ∀ f, f < pn P → g.1 48 (5 * e + f) = nI (pE P e f)) ∧ ∀ k, k < N → ∀ f, f < pn P → g.1 49 (5 * k + f) = nJ (rv (r k) f)
/-- the names are names -/
def nmOK (P : zPl) : Prop := ∀ f, f < pn P → 0 < (pl P f).length ∧ ∀ k, k < 9 → pl P f ≠ wdL k
theorem cDf_mw {W : Nat → Nat → Prop} (q : ∀ c k, W c k → c < 11 ∨ 18 < c) (a : mw W g h) (d : cDf P N r g) : cDf P N r h := by
  have e : ∀ c, 11 ≤ c → c ≤ 18 → h.1 c = g.1 c := fun c h1 h2 => funext fun k => a.1 c k (fun w => by have := q c k w; omega)
  unfold cDf at d ⊢
  rw [e 11 (by omega) (by omega), e 12 (by omega) (by omega), e 13 (by omega) (by omega), e 14 (by omega) (by omega), e 15 (by omega) (by omega), e 16 (by omega) (by omega), e 17 (by omega) (by omega), e 18 (by omega) (by omega)]
  exact d
theorem mDf_mw {W : Nat → Nat → Prop} (q : ∀ c k, W c k → (c < 44 ∨ 49 < c) ∧ (c = 42 → k < 6 ∨ 9 < k)) (a : mw W g h) (d : mDf P N r g) : mDf P N r h := by
  have e : ∀ c, 44 ≤ c → c ≤ 49 → h.1 c = g.1 c := fun c h1 h2 => funext fun k => a.1 c k (fun w => by have := (q c k w).1; omega)
  have f : ∀ k, 6 ≤ k → k ≤ 9 → h.1 42 k = g.1 42 k := fun k h1 h2 => a.1 42 k (fun w => by have := (q 42 k w).2 rfl; omega)
  unfold mDf at d ⊢
  rw [f 6 (by omega) (by omega), f 7 (by omega) (by omega), f 8 (by omega) (by omega), f 9 (by omega) (by omega), e 45 (by omega) (by omega), e 46 (by omega) (by omega), e 47 (by omega) (by omega), e 48 (by omega) (by omega), e 49 (by omega) (by omega), a.2]
  exact d
/-- the field that is named; their number where none is -/
noncomputable def told (tn : Nat) (tb : Nat → Nat) (P : zPl) (s : Nat) : Nat := fstB (fun f => decide (pl P f = wd tn tb s)) (pn P)
theorem told_le (P : zPl) : told tn tb P s ≤ pn P := (fstB_spec _ _).1
theorem told_in (h : told tn tb P s < pn P) : pl P (told tn tb P s) = wd tn tb s := of_decide_eq_true ((fstB_spec _ _).2.2 h)
theorem told_nm (hn : nmOK P) (hO : pOK P) (h : told tn tb P s < pn P) : isNm tn tb s = true := by
  have e := told_in h
  have h1 := hn _ h
  have h2 := hO.2.2.1 _ h
  rw [e] at h1 h2
  have hl := wd_len (tn := tn) (tb := tb) s
  exact isNm_iff.mpr ⟨by omega, h1.2⟩
theorem e_isNameOf (hO : pOK P) (hn : nmOK P) (hA : tkA tn tb s g) (hD : cDf P N r g) {f : Nat} (hf : f < pn P) : nX7_isNameOf (nI f) g = some (if pl P f = wd tn tb s then 1 else 0) := by
  obtain ⟨hT, hs, h2, h3⟩ := hA
  obtain ⟨d0, d1, d2, d3, d4, d5, d6, d7, d8⟩ := hD
  have h5 := hO.1
  have t2 := hT.2.1
  have hte := te_le (tb := tb) hs
  have hsb : nI (te tn tb s) - nI s = nI (te tn tb s - s) := nI_sub (by omega)
  obtain ⟨l6, hl⟩ := hO.2.2.1 f hf
  obtain ⟨l0, _⟩ := hn f hf
  have hlt : ∀ i, i < (pl P f).length → 97 ≤ (pl P f).getD i 0 ∧ (pl P f).getD i 0 ≤ 122 := fun i hi => hl _ (by rw [List.getD_eq_getElem?_getD, List.getElem?_eq_getElem hi, Option.getD_some]; exact List.getElem_mem _)
  have iff := tk_wd (tb := tb) (fun p hp => chr_lt hT hp) hs (w := pl P f) l0 (fun i hi => by
    have := hlt i hi
    unfold isLt
    rw [decide_eq_true this.1, decide_eq_true this.2]; rfl)
  unfold nX7_isNameOf
  rw [zchk_t (zin_nI (by omega) (by omega)), nI_cl (by omega), h2, h3, hsb, (d7 f hf).1]
  by_cases q : te tn tb s - s = (pl P f).length
  · rw [if_pos (by rw [q])]
    have key := wh_fsB (step := wX7_isNameOf_27 (nI f) (nI (pl P f).length) g) (fun i => !decide (chr tn tb (s + i) = nI ((pl P f).getD i 0))) (pl P f).length (fun i => nI i) 1 (fun _ => 0) (fun i hi hp => ?_) (fun i hi hp => ?_) ?_
    · rw [show (0 : Int32) = nI 0 from rfl, key]
      obtain ⟨f1, f2, f3⟩ := fstB_spec (fun i => !decide (chr tn tb (s + i) = nI ((pl P f).getD i 0))) (pl P f).length
      by_cases c : fstB (fun i => !decide (chr tn tb (s + i) = nI ((pl P f).getD i 0))) (pl P f).length < (pl P f).length
      · rw [if_pos c, if_neg (fun e => ?_)]
        · rfl
        · have := f3 c
          rw [Bool.not_eq_true', decide_eq_false_iff_not] at this
          exact this ((iff.mpr e.symm).2 _ c)
      · rw [if_neg c, if_pos]
        refine (iff.mp ⟨q, fun i hi => ?_⟩).symm
        have := f2 i (by omega)
        rw [Bool.not_eq_false', decide_eq_true_eq] at this
        exact this
    · rw [Bool.not_eq_false', decide_eq_true_eq] at hp
      unfold wX7_isNameOf_27 nX6_letter_d
      rw [if_neg (fun e => by rw [nN_le (by omega) (by omega)] at e; omega), h2, nN_add, e_at hT _ (by omega), Option.bind_some, if_neg (nI_nn (by omega)), zchk_t (zin_nI (by omega) (by omega)), nI_cl (by omega), (d7 f hf).1, if_pos ((nN_lt (by omega) (by omega)).mpr hi), show nI f * (6 : Int32) = nI (f * 6) from nI_mul f 6, nN_add, zchk_t (zin_nI (by omega) (by omega)), nI_cl (by omega), (d7 f hf).2 i hi, Option.bind_some, if_pos hp, nI_s]
    · rw [Bool.not_eq_true', decide_eq_false_iff_not] at hp
      unfold wX7_isNameOf_27 nX6_letter_d
      rw [if_neg (fun e => by rw [nN_le (by omega) (by omega)] at e; omega), h2, nN_add, e_at hT _ (by omega), Option.bind_some, if_neg (nI_nn (by omega)), zchk_t (zin_nI (by omega) (by omega)), nI_cl (by omega), (d7 f hf).1, if_pos ((nN_lt (by omega) (by omega)).mpr hi), show nI f * (6 : Int32) = nI (f * 6) from nI_mul f 6, nN_add, zchk_t (zin_nI (by omega) (by omega)), nI_cl (by omega), (d7 f hf).2 i hi, Option.bind_some, if_neg hp]
      rfl
    · unfold wX7_isNameOf_27
      rw [if_pos (Int32.le_refl _)]
      rfl
  · rw [if_neg (fun e => q ((nN_eq (by omega) (by omega)).mp e)), if_neg (fun e => q (iff.mpr e.symm).1)]
theorem e_toldField (hO : pOK P) (hn : nmOK P) (hA : tkA tn tb s g) (hD : cDf P N r g) : nX7_toldField g = some (if told tn tb P s < pn P then nI (told tn tb P s) else -1) := by
  have h5 := hO.1
  unfold nX7_toldField
  have key := wh_fsB (step := wX7_toldField_2 g) (fun f => decide (pl P f = wd tn tb s)) (pn P) (fun f => nI f) (-1 : Int32) (fun f => nI f) (fun f hf hp => ?_) (fun f hf hp => ?_) ?_
  · exact key
  · rw [decide_eq_false_iff_not] at hp
    unfold wX7_toldField_2
    rw [hD.1, if_neg (fun e => by rw [nN_le (by omega) (by omega)] at e; omega), e_isNameOf hO hn hA hD hf, Option.bind_some, if_neg hp, if_pos rfl, nI_s]
  · rw [decide_eq_true_eq] at hp
    unfold wX7_toldField_2
    rw [hD.1, if_neg (fun e => by rw [nN_le (by omega) (by omega)] at e; omega), e_isNameOf hO hn hA hD hf, Option.bind_some, if_pos hp, if_neg n01]
    rfl
  · unfold wX7_toldField_2
    rw [hD.1, if_pos (Int32.le_refl _)]
    rfl
theorem nL_inj {a b : Nat} (ha : a < 2147483648) (hb : b < 2147483648) : lg_cmp (nL a) (nL b) = 0 ↔ a = b := by
  rw [lg_0]
  constructor
  · intro e
    have := congrArg Int64.toInt e
    rw [nL_toInt ha, nL_toInt hb] at this
    omega
  · intro e; rw [e]
theorem nmL_inj {l l' : List Nat} (h1 : ∀ c ∈ l, 97 ≤ c ∧ c ≤ 122) (h2 : ∀ c ∈ l', 97 ≤ c ∧ c ≤ 122) : ∀ k, k ≤ l.length → ∀ k', k' ≤ l'.length → nmL (l.take k) = nmL (l'.take k') → l.take k = l'.take k'
  | 0, _, 0, _, _ => by rw [List.take_zero, List.take_zero]
  | 0, _, k' + 1, hk', e => by
    have := (nmL_p h2 (k := k') (by omega)).2.2.1
    rw [← e, List.take_zero] at this
    exact absurd this (by decide)
  | k + 1, hk, 0, _, e => by
    have := (nmL_p h1 (k := k) (by omega)).2.2.1
    rw [e, List.take_zero] at this
    exact absurd this (by decide)
  | k + 1, hk, k' + 1, hk', e => by
    obtain ⟨a1, a2, _, a3, a4⟩ := nmL_p h1 (k := k) (by omega)
    obtain ⟨b1, b2, _, b3, b4⟩ := nmL_p h2 (k := k') (by omega)
    rw [e] at a1 a2
    have ih := nmL_inj h1 h2 k (by omega) k' (by omega) (by rw [← a1, ← b1])
    have hd : l.getD k 0 = l'.getD k' 0 := by omega
    rw [List.take_add_one, List.take_add_one, ih, List.getElem?_eq_getElem (by omega : k < l.length), List.getElem?_eq_getElem (by omega : k' < l'.length)]
    rw [List.getD_eq_getElem?_getD, List.getElem?_eq_getElem (by omega : k < l.length), Option.getD_some, List.getD_eq_getElem?_getD, List.getElem?_eq_getElem (by omega : k' < l'.length), Option.getD_some] at hd
    rw [hd]
theorem nmL_eq {l l' : List Nat} (h1 : ∀ c ∈ l, 97 ≤ c ∧ c ≤ 122) (h2 : ∀ c ∈ l', 97 ≤ c ∧ c ≤ 122) : nmL l = nmL l' ↔ l = l' := by
  constructor
  · intro e
    have := nmL_inj h1 h2 l.length (Nat.le_refl _) l'.length (Nat.le_refl _) (by rw [List.take_length, List.take_length]; exact e)
    rw [List.take_length, List.take_length] at this
    exact this
  · intro e; rw [e]
theorem nL_step {a c : Nat} (ha : a < 33554432) (h1 : 97 ≤ c) (h2 : c ≤ 122) : ((32 : Int64) * nL a + (nI c).toInt64 - (97 : Int64)) + (1 : Int64) = nL (32 * a + (c - 96)) := by
  have hc : (nI c).toInt64 = nL c := rfl
  rw [hc]
  apply Int64.toInt.inj
  have e0 : ((32 : Int64) * nL a).toInt = 32 * (a : Int) := by
    rw [Int64.toInt_mul, nL_toInt (by omega), show (32 : Int64).toInt = 32 from rfl]
    exact Int.bmod_eq_of_le (by omega) (by omega)
  have e1 : ((32 : Int64) * nL a + nL c).toInt = 32 * (a : Int) + c := by
    rw [Int64.toInt_add, e0, nL_toInt (by omega)]
    exact Int.bmod_eq_of_le (by omega) (by omega)
  have e2 : ((32 : Int64) * nL a + nL c - 97).toInt = 32 * (a : Int) + c - 97 := by
    rw [Int64.toInt_sub, e1, show (97 : Int64).toInt = 97 from rfl]
    exact Int.bmod_eq_of_le (by omega) (by omega)
  rw [Int64.toInt_add, e2, nL_toInt (by omega), show (1 : Int64).toInt = 1 from rfl]
  rw [Int.bmod_eq_of_le (by omega) (by omega)]
  omega
theorem m_named (hX : rdX tn tb p g) (h6 : rn tn tb isLt (sk tn tb p) ≤ 6) : ∃ h, nX11_named g = some (nL (nmL (wd tn tb (sk tn tb p))), h) ∧ rdX tn tb (sk tn tb p) h ∧ mw wP4 g h := by
  obtain ⟨h, w, a1, a2⟩ := m_wordSize hX
  have hsk := sk_le (tb := tb) hX.2.2.1
  have hrl := rn_le (tn := tn) (tb := tb) isLt (sk tn tb p)
  have hwl := wd_len (tn := tn) (tb := tb) (sk tn tb p)
  have hmem := fun c (hc : c ∈ wd tn tb (sk tn tb p)) => wd_mem hc
  obtain ⟨⟨t1, t2, t3, t4⟩, h4, _, _⟩ := id a1
  refine ⟨h, ?_, a1, a2⟩
  unfold nX11_named
  rw [w, Option.bind_some]
  dsimp only
  have key : wh (wX11_named_10 (nI (rn tn tb isLt (sk tn tb p))) h) (nL (nmL ((wd tn tb (sk tn tb p)).take 0)), nI 0) = some (nL (nmL ((wd tn tb (sk tn tb p)).take (rn tn tb isLt (sk tn tb p)))), h) := by
    refine wh_seq (fun i => (nL (nmL ((wd tn tb (sk tn tb p)).take i)), nI i)) (rn tn tb isLt (sk tn tb p)) (fun i hi => ?_) ?_
    · have hb := nmL_lt hmem i (by omega)
      have hb2 : 32 ^ i ≤ 32 ^ 5 := Nat.pow_le_pow_right (by omega) (by omega)
      have hb3 : (32 : Nat) ^ 5 = 33554432 := by decide
      obtain ⟨_, _, _, c1, c2⟩ := nmL_p hmem (k := i) (by omega)
      have hg := wd_get (tn := tn) (tb := tb) (s := sk tn tb p) hi
      rw [hg] at c1 c2
      dsimp only [wX11_named_10]
      rw [if_neg (fun e => by rw [nN_le (by omega) (by omega)] at e; omega), h4, nN_add, zchk_t (zin_nI (by omega) (by omega)), nI_cl (by omega), t2 _ (by omega), nL_step (by omega) c1 c2, nmL_t (by omega), hg, nI_s]
    · dsimp only [wX11_named_10]
      rw [if_pos (Int32.le_refl _)]
      rfl
  rw [show (wd tn tb (sk tn tb p)).take (rn tn tb isLt (sk tn tb p)) = wd tn tb (sk tn tb p) from List.take_of_length_le (by omega), show nL (nmL ((wd tn tb (sk tn tb p)).take 0)) = 0 from by rw [List.take_zero]; rfl] at key
  exact key
theorem m_fieldHere (hO : pOK P) (hn : nmOK P) (hX : rdX tn tb p g) (hD : mDf P N r g) : ∃ h, nX11_fieldHere g = some (if told tn tb P (sk tn tb p) < pn P then nI (told tn tb P (sk tn tb p)) else -1, h) ∧ rdX tn tb (sk tn tb p) h ∧ mw wP4 g h := by
  have h5 := hO.1
  obtain ⟨h, w, a1, a2⟩ := m_isName hX
  have hss := sk_sk (tb := tb) hX.2.2.1
  unfold nX11_fieldHere
  rw [w, Option.bind_some]
  by_cases q : isNm tn tb (sk tn tb p) = true
  · have hq := isNm_iff.mp q
    obtain ⟨h2, w2, b1, b2⟩ := m_named a1 (by rw [hss]; exact hq.1.2)
    rw [hss] at w2 b1
    have m2 := mw_tr a2 b2
    have hD2 := mDf_mw (fun c k q => by unfold wP4 at q; omega) m2 hD
    rw [if_pos q, if_neg n01, w2, Option.bind_some]
    have hwl := wd_len (tn := tn) (tb := tb) (sk tn tb p)
    have hmem := fun c (hc : c ∈ wd tn tb (sk tn tb p)) => wd_mem hc
    have hb31 := nmL_31 hmem (by omega) (Nat.le_refl _)
    rw [List.take_length] at hb31
    have heq : ∀ f, f < pn P → (lg_cmp (nL (nmL (pl P f))) (nL (nmL (wd tn tb (sk tn tb p)))) = 0 ↔ pl P f = wd tn tb (sk tn tb p)) := fun f hf => by
      obtain ⟨l6, hl⟩ := hO.2.2.1 f hf
      have hp31 := nmL_31 hl l6 (Nat.le_refl _)
      rw [List.take_length] at hp31
      rw [nL_inj hp31 hb31, nmL_eq hl hmem]
    have key := wh_fsB (step := wX11_fieldHere_16 (nL (nmL (wd tn tb (sk tn tb p)))) h2) (fun f => decide (pl P f = wd tn tb (sk tn tb p))) (pn P) (fun f => nI f) (-1, h2) (fun f => (nI f, h2)) (fun f hf hp => ?_) (fun f hf hp => ?_) ?_
    · refine ⟨h2, ?_, b1, m2⟩
      rw [show (0 : Int32) = nI 0 from rfl]
      refine key.trans ?_
      unfold told
      split <;> rfl
    · rw [decide_eq_false_iff_not] at hp
      unfold wX11_fieldHere_16
      rw [hD2.1, if_neg (fun e => by rw [nN_le (by omega) (by omega)] at e; omega), zchk_t (zin_nI (by omega) (by omega)), nI_cl (by omega), hD2.2.2.2.2.1 f hf, if_neg (fun e => hp ((heq f hf).mp e)), nI_s]
    · rw [decide_eq_true_eq] at hp
      unfold wX11_fieldHere_16
      rw [hD2.1, if_neg (fun e => by rw [nN_le (by omega) (by omega)] at e; omega), zchk_t (zin_nI (by omega) (by omega)), nI_cl (by omega), hD2.2.2.2.2.1 f hf, if_pos ((heq f hf).mpr hp)]
      rfl
    · unfold wX11_fieldHere_16
      rw [hD2.1, if_pos (Int32.le_refl _)]
      rfl
  · have hno : ¬ told tn tb P (sk tn tb p) < pn P := fun e => q (told_nm hn hO e)
    rw [if_neg q, if_pos rfl, if_neg hno]
    exact ⟨h, rfl, a1, a2⟩
end Df
