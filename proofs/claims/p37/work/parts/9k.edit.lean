
/-! ===== read: an edit's line, the class ===== -/
section Ed
variable {g h k : zS} {tn : Nat} {tb : Nat → Nat} {s p : Nat} {P : zPl} {N : Nat} {r : Nat → Nat}
/-- the plan with one more edit -/
def wE (P : zPl) (V : Nat → Nat) : zPl := (P.1, P.2.1, P.2.2.1, P.2.2.2.1, P.2.2.2.2.1, pm P + 1, (fun e f => if e = pm P then V f else pE P e f), P.2.2.2.2.2.2.2)
theorem wE_ok (hO : pOK P) {V : Nat → Nat} (hm : pm P < 6) (hn : pn P ≠ 0) (hV : ∀ f, f < pn P → V f < 2 ^ pq P f) : pOK (wE P V) := by
  refine ⟨hO.1, hO.2.1, hO.2.2.1, hm, fun e he f hf => ?_, hO.2.2.2.2.2.1, fun q => absurd q hn⟩
  show (if e = pm P then V f else pE P e f) < _
  have he' : e < pm P + 1 := he
  by_cases q : e = pm P
  · rw [if_pos q]; exact hV f hf
  · rw [if_neg q]; exact hO.2.2.2.2.1 e (by omega) f hf
/-- an edit's fields from the token on: the token behind, the values; or the token that is wrong -/
noncomputable def edR (P : zPl) (tn : Nat) (tb : Nat → Nat) : Nat → Nat → Nat → (Nat → Nat) → (Nat × (Nat → Nat)) ⊕ Nat
  | 0, t, _, _ => .inr t
  | k + 1, t, sn, V => if told tn tb P t < pn P ∧ sn.testBit (told tn tb P t) = false then (if wd tn tb (sk tn tb (te tn tb t)) = wdL 7 then (match spR tn tb (pq P (told tn tb P t) - 1) (tn + 1) (sk tn tb (te tn tb (sk tn tb (te tn tb t)))) 0 with
      | .inr t' => .inr t'
      | .inl (t', m') => if wd tn tb t' = wdL 6 then edR P tn tb k (sk tn tb (te tn tb t')) (sn ||| 2 ^ told tn tb P t) (upA V (told tn tb P t) m') else .inl (t', upA V (told tn tb P t) m')) else .inr (sk tn tb (te tn tb t))) else .inr t
theorem cDf_17 (hO : pOK P) {V : Nat → Nat} {f0 x : Nat} (hf0 : f0 < pn P) (d : cDf (wE P V) N r g) : cDf (wE P (upA V f0 x)) N r (zi g 17 (pm P * 5 + f0) (nI x)) := by
  have h5 := hO.1
  obtain ⟨d0, d1, d2, d3, d4, d5, d6, d7, d8, d9, d10⟩ := d
  refine ⟨by rw [zi_else _ _ (by omega)]; exact d0, fun f hf => by rw [zi_cell _ _ (by omega)]; exact d1 f hf, fun f hf => by rw [zi_cell _ _ (by omega)]; exact d2 f hf, fun f hf => by rw [zi_cell _ _ (by omega)]; exact d3 f hf, by rw [zi_else _ _ (by omega)]; exact d4, by rw [zi_else _ _ (by omega)]; exact d5, fun e he f hf => ?_, fun f hf => by rw [zi_cell _ _ (show 16 ≠ 17 by omega), zi_cell _ _ (show 15 ≠ 17 by omega)]; exact d7 f hf, by rw [zi_else _ _ (by omega)]; exact d8, d9, fun j hj => by rw [zi_cell _ _ (by omega)]; exact d10 j hj⟩
  have hf' : f < pn P := hf
  show _ = nI (if e = pm P then upA V f0 x f else pE P e f)
  have e6 : g.1 17 (e * 5 + f) = nI (if e = pm P then V f else pE P e f) := d6 e he f hf
  by_cases q : e = pm P ∧ f = f0
  · rw [q.1, q.2, zi_at, if_pos rfl]
    unfold upA
    rw [if_pos rfl]
  · rw [zi_else _ _ (by omega), e6]
    by_cases q2 : e = pm P
    · rw [if_pos q2, if_pos q2]
      unfold upA
      rw [if_neg (fun w => q ⟨q2, w⟩)]
    · rw [if_neg q2, if_neg q2]
theorem tkA_mw {W : Nat → Nat → Prop} (q : ∀ c k, W c k → c ≠ 1 ∧ c ≠ 2 ∧ c ≠ 19) (a : mw W g h) (t : tkA tn tb s g) : tkA tn tb s h := ⟨cTp_mw (fun c k w => ⟨(q c k w).1, (q c k w).2.1⟩) a t.1, t.2.1, by rw [a.1 19 2 (fun w => (q _ _ w).2.2 rfl)]; exact t.2.2.1, by rw [a.1 19 3 (fun w => (q _ _ w).2.2 rfl)]; exact t.2.2.2⟩
theorem e_edit65 (hO : pOK P) (hn : nmOK P) (hm : pm P < 6) (hp0 : pn P ≠ 0) : ∀ k t0 sn V cn (g : zS), tkA tn tb t0 g → sn < 32 → cnt (fun f => sn.testBit f) (pn P) = cn → cn + k = 6 → cDf (wE P V) N r g → (∀ f, f < pn P → V f < 2 ^ pq P f) → (∀ t' V', edR P tn tb k (sk tn tb (te tn tb t0)) sn V = .inl (t', V') → ∃ h, wh (wX7_readEdit_65 (nI (pm P * 5))) (nI sn, nI cn, g) = some (1, h) ∧ tkA tn tb t' h ∧ cDf (wE P V') N r h ∧ (∀ f, f < pn P → V' f < 2 ^ pq P f) ∧ mw wCr g h) ∧ (∀ t', edR P tn tb k (sk tn tb (te tn tb t0)) sn V = .inr t' → ∃ h, wh (wX7_readEdit_65 (nI (pm P * 5))) (nI sn, nI cn, g) = some (0, h) ∧ tkA tn tb t' h ∧ mw wCr g h) := by
  have h5 := hO.1
  intro k
  induction k with
  | zero =>
    intro t0 sn V cn g _ _ hc hk
    have := cnt_le (fun f => sn.testBit f) (pn P)
    omega
  | succ k ih =>
    intro t0 sn V cn g hA hsn hc hk hD hV
    obtain ⟨g1, w1, b1, b2⟩ := e_nextA hA
    obtain ⟨t, et⟩ : ∃ t, t = sk tn tb (te tn tb t0) := ⟨_, rfl⟩
    rw [← et] at b1 ⊢
    have hD1 := cDf_mw (fun c k q => by unfold wT2 at q; omega) b2 hD
    have htold : nX7_toldField g1 = some (if told tn tb P t < pn P then nI (told tn tb P t) else -1) := e_toldField (P := wE P V) (wE_ok hO hm hp0 hV) hn b1 hD1
    have hlt : ¬ (5 : Int32) < nI cn := fun e => by have := (nN_lt (a := 5) (by omega) (by omega)).mp e; omega
    unfold edR
    by_cases q : told tn tb P t < pn P
    · obtain ⟨f, ef⟩ : ∃ f, f = told tn tb P t := ⟨_, rfl⟩
      rw [← ef] at q htold ⊢
      have hq := hO.2.1 f q
      have hbit := nI_bit0 (s := sn) (k := f) (by omega) (by omega)
      have hf1 : ¬ nI f = -1 := fun e => by rw [nI_m1, nN_eqm (by omega)] at e; exact e
      rw [if_pos q] at htold
      by_cases q2 : sn.testBit f = false
      · rw [if_pos ⟨q, q2⟩]
        obtain ⟨g2, w2, c1, c2⟩ := e_nextA b1
        have hD2 := cDf_mw (fun c k q => by unfold wT2 at q; omega) c2 hD1
        obtain ⟨t2, et2⟩ : ∃ t2, t2 = sk tn tb (te tn tb t) := ⟨_, rfl⟩
        rw [← et2] at c1 ⊢
        by_cases q3 : wd tn tb t2 = wdL 7
        · rw [if_pos q3]
          obtain ⟨ht2, _, _⟩ := word_te (k := 7) (L := 2) rfl (by omega) q3
          have e12 : g2.1 12 f - (1 : Int32) = nI (pq P f - 1) := by
            have : g2.1 12 f = nI (pq P f) := hD2.2.1 f q
            rw [this]; exact nI_sub (b := 1) (by omega)
          obtain ⟨sp1, sp2⟩ := e_spans17 (hi := pq P f - 1) (by omega) (tn + 1) t2 0 0 g2 c1 ht2 (by omega) (Nat.zero_le _) (Nat.pow_pos (by omega))
          have hidx : nI (pm P * 5) + nI f = nI (pm P * 5 + f) := nN_add _ _
          have pre : ∀ x z, wh (wX7_readSpans_17 (nI (pq P f - 1))) (nI 0, nI 0, g2) = some (x, z) → wX7_readEdit_65 (nI (pm P * 5)) (nI sn, nI cn, g) = (if x = 0 then (zex (some (((0 : Int32), (zi z 17 (pm P * 5 + f) x))))) else ((nX7_isWord_906 (zi z 17 (pm P * 5 + f) x)).bind fun v6 => if v6 = 0 then (zex (some (((1 : Int32), (zi z 17 (pm P * 5 + f) x))))) else (some (.inl ((nI sn ||| ((1 : Int32) <<< (nI f &&& 31))), (nI cn + (1 : Int32)), (zi z 17 (pm P * 5 + f) x)))))) := fun x z e => by
            have esp : nX7_readSpans (nI f) g2 = some (x, z) := by
              unfold nX7_readSpans
              rw [zchk_t (zin_nI (by omega) (by omega)), nI_cl (by omega), e12]
              exact e
            unfold wX7_readEdit_65
            dsimp only
            rw [if_neg hlt, w1, Option.bind_some, htold, Option.bind_some, if_neg hf1, if_pos (hbit.mpr q2), w2, Option.bind_some, e_isWord_907 c1, Option.bind_some, if_pos q3, if_neg n01, esp, Option.bind_some, hidx, zchk_t (zin_nI (by omega) (by omega)), zchk_t (zin_nI (by omega) (by omega)), nI_cl (by omega), zi_at]
          have hm17 : ∀ (z : zS) (x : Int32), mw wCr z (zi z 17 (pm P * 5 + f) x) := fun z x => mw_zi (Or.inl ⟨by omega, by omega⟩) _ _
          have hm17' : ∀ (z : zS) (x : Int32), mw (fun c _ => c = 17) z (zi z 17 (pm P * 5 + f) x) := fun z x => mw_zi (W := fun c _ => c = 17) rfl _ _
          cases hsp : spR tn tb (pq P f - 1) (tn + 1) (sk tn tb (te tn tb t2)) 0 with
          | inr t' =>
            obtain ⟨g3, w3, d1, d2⟩ := sp2 t' hsp
            have base := pre _ _ w3
            rw [if_pos rfl] at base
            dsimp only
            refine ⟨fun t' V' e => (by cases e), fun t'' e => ?_⟩
            have e1 := Sum.inr.inj e
            subst e1
            exact ⟨_, wh_out base, tkA_mw (fun c k q => by omega) (hm17' _ _) d1, mw_tr (wT2_Cr b2) (mw_tr (wT2_Cr c2) (mw_tr (wT2_Cr d2) (hm17 _ _)))⟩
          | inl tm =>
            obtain ⟨t', m'⟩ := tm
            obtain ⟨g3, w3, d1, d4, d5, d2⟩ := sp1 t' m' hsp
            have hm' : m' < 2 ^ pq P f := by rw [show pq P f - 1 + 1 = pq P f by omega] at d5; exact d5
            have hm32 : 2 ^ pq P f ≤ 2 ^ 5 := Nat.pow_le_pow_right (by omega) hq.2.1
            have base := pre _ _ w3
            have zA : tkA tn tb t' (zi g3 17 (pm P * 5 + f) (nI m')) := tkA_mw (fun c k q => by omega) (hm17' _ _) d1
            have zD : cDf (wE P (upA V f m')) N r (zi g3 17 (pm P * 5 + f) (nI m')) := cDf_17 hO q (cDf_mw (fun c k q => by unfold wT2 at q; omega) d2 hD2)
            have zm : mw wCr g (zi g3 17 (pm P * 5 + f) (nI m')) := mw_tr (wT2_Cr b2) (mw_tr (wT2_Cr c2) (mw_tr (wT2_Cr d2) (hm17 _ _)))
            have zV : ∀ e, e < pn P → upA V f m' e < 2 ^ pq P e := fun e he => by
              unfold upA
              by_cases w : e = f
              · rw [if_pos w, w]; exact hm'
              · rw [if_neg w]; exact hV e he
            rw [if_neg (fun e => d4 ((nN_eq0 (by omega)).mp e)), e_isWord_906 zA, Option.bind_some] at base
            dsimp only
            by_cases q4 : wd tn tb t' = wdL 6
            · rw [if_pos q4]
              rw [if_pos q4, if_neg n01, nI_shl (by omega), nI_or, nI_s] at base
              rw [wh_in base]
              have hcn : cnt (fun e => (sn ||| 2 ^ f).testBit e) (pn P) = cn + 1 := by
                rw [← hc]
                refine cnt_upd (j := f) q2 ?_ (fun i hi => ?_) _ q
                · rw [Nat.testBit_or, Nat.testBit_two_pow_self, Bool.or_true]
                · rw [Nat.testBit_or, Nat.testBit_two_pow, decide_eq_false (fun e => hi e.symm), Bool.or_false]
              have hsn2 : sn ||| 2 ^ f < 32 := Nat.or_lt_two_pow (n := 5) hsn (Nat.pow_lt_pow_right (by omega) (by omega))
              obtain ⟨i1, i2⟩ := ih t' (sn ||| 2 ^ f) (upA V f m') (cn + 1) _ zA hsn2 hcn (by omega) zD zV
              refine ⟨fun t'' V' e => ?_, fun t'' e => ?_⟩
              · obtain ⟨h, w, r1, r2, r3, r4⟩ := i1 t'' V' e
                exact ⟨h, w, r1, r2, r3, mw_tr zm r4⟩
              · obtain ⟨h, w, r1, r4⟩ := i2 t'' e
                exact ⟨h, w, r1, mw_tr zm r4⟩
            · rw [if_neg q4]
              rw [if_neg q4, if_pos rfl] at base
              refine ⟨fun t'' V' e => ?_, fun t'' e => (by cases e)⟩
              have e1 := congrArg Prod.fst (Sum.inl.inj e)
              have e2 := congrArg Prod.snd (Sum.inl.inj e)
              dsimp only at e1 e2
              subst e1 e2
              exact ⟨_, wh_out base, zA, zD, zV, zm⟩
        · rw [if_neg q3]
          refine ⟨fun t' V' e => (by cases e), fun t' e => ?_⟩
          have e1 := Sum.inr.inj e
          subst e1
          refine ⟨g2, wh_out ?_, c1, mw_tr (wT2_Cr b2) (wT2_Cr c2)⟩
          unfold wX7_readEdit_65
          dsimp only
          rw [if_neg hlt, w1, Option.bind_some, htold, Option.bind_some, if_neg hf1, if_pos (hbit.mpr q2), w2, Option.bind_some, e_isWord_907 c1, Option.bind_some, if_neg q3, if_pos rfl]
          rfl
      · rw [if_neg (fun e => q2 e.2)]
        refine ⟨fun t' V' e => (by cases e), fun t' e => ?_⟩
        have e1 := Sum.inr.inj e
        subst e1
        refine ⟨g1, wh_out ?_, b1, wT2_Cr b2⟩
        unfold wX7_readEdit_65
        dsimp only
        rw [if_neg hlt, w1, Option.bind_some, htold, Option.bind_some, if_neg hf1, if_neg (fun e => q2 (hbit.mp e))]
        rfl
    · rw [if_neg (fun e => q e.1)]
      rw [if_neg q] at htold
      refine ⟨fun t' V' e => (by cases e), fun t' e => ?_⟩
      have e1 := Sum.inr.inj e
      subst e1
      refine ⟨g1, wh_out ?_, b1, wT2_Cr b2⟩
      unfold wX7_readEdit_65
      dsimp only
      rw [if_neg hlt, w1, Option.bind_some, htold, Option.bind_some, if_pos rfl]
      rfl
end Ed
