
/-! ===== the reference: donors gathered, what a row is when mended ===== -/
section Me
variable {P : zPl} {g : zS} {N : Nat} {r : Nat → Nat}
theorem rgt_full {c : Nat} (h : rgt P c = true) : ∀ f, f < pn P → rv c f ≠ 0 := by
  unfold rgt at h
  rw [Bool.and_eq_true, beq_iff_eq, rmis_0] at h
  exact h.1
theorem mD_sc {i : Nat} {s : zDn} {h : zS} (e42 : h.1 42 42 = g.1 42 42) (e66 : h.1 66 = g.1 66) (e67 : h.1 67 = g.1 67) (e68 : h.1 68 = g.1 68) (p : mD P N r i s g) : mD P N r i s h := by
  unfold mD at p ⊢
  rw [e42, e66, e67, e68]
  exact p
theorem bld_full {c d S : Nat} (h5 : pn P ≤ 5) (hm : ∀ f, f < pn P → rv c f = 0 → S.testBit f = true) (hd : ∀ f, f < pn P → rv d f ≠ 0) : ∀ f, f < pn P → rv (bld c d S) f ≠ 0 := fun f hf => by
  rw [rv_bld (by omega)]
  cases hb : S.testBit f with
  | true => rw [if_pos rfl]; exact hd f hf
  | false => rw [if_neg (by decide)]; exact fun q => by rw [hm f hf q] at hb; cases hb
theorem bF_form (hO : pOK P) {c d S : Nat} (hc : rOK P c) (hd : rOK P d) (hfull : ∀ f, f < pn P → rv (bld c d S) f ≠ 0) : bF P c d S < 3125 ∧ psF P (bF P c d S) = rgt P (bld c d S) := by
  have h5 := hO.1
  obtain ⟨v1, v2, v3⟩ := row_form hO (rOK_bld hc hd h5 (S := S)) hfull
  refine ⟨v1, ?_⟩
  unfold bF psF rgt
  rw [v2, v3, (rmis_0 _ _).mpr hfull]
  rfl
theorem m_donors91 (hO : pOK P) (hM : mP P g) (hF : mF P g) (hR : mR P N r g) {i o : Nat} (hi : i < N) (ho : o < N) (hS : ls P (r i) < 32) (hm : ∀ f, f < pn P → rv (r i) f = 0 → (ls P (r i)).testBit f = true) (hd : ∀ f, f < pn P → rv (r o) f ≠ 0) {s : zDn} (hD : mD P N r i s g) (hn : s.1 < 40) : ∃ h, wh (wX11_laysDonors_91 (nI i) (nI (ls P (r i))) (nI o) g) ((0 : Int32), (0 : Int32)) = some (.inl (nI (o + 1), h)) ∧ sc g h ∧ h.1 42 0 = g.1 42 0 ∧ mD P N r i (if rgt P (bld (r i) (r o) (ls P (r i))) then dIns s o (far P (r i) (r o) (ls P (r i)) (pn P)) else s) h := by
  have h5 := hO.1
  have hri := (hR.2.2 i hi).2
  have hro := (hR.2.2 o ho).2
  have hfull := bld_full (S := ls P (r i)) h5 hm hd
  obtain ⟨b1, b2⟩ := bF_form hO hri hro hfull
  obtain ⟨rr, w, q⟩ := wh_up (step := wX11_laysDonors_91 (nI i) (nI (ls P (r i))) (nI o) g) (fun f t => t = (nI (fno (fun f => rv (bld (r i) (r o) (ls P (r i))) f - 1) f), nI f)) (fun rr => ∃ h, rr = Sum.inl (nI (o + 1), h) ∧ sc g h ∧ h.1 42 0 = g.1 42 0 ∧ mD P N r i (if rgt P (bld (r i) (r o) (ls P (r i))) then dIns s o (far P (r i) (r o) (ls P (r i)) (pn P)) else s) h) (pn P) (fun f t hf hI => by
    subst hI
    dsimp only [wX11_laysDonors_91]
    have hv := hfull f hf
    have hlt := rv_lt (bld (r i) (r o) (ls P (r i))) f
    rw [hM.1, if_neg (by rw [nN_le (by omega) (by omega)]; omega), zchk_t (zin_nI (by omega) (by omega)), m_has (by omega) (by omega), Option.bind_some, nI_cl (by omega), hM.2.2.2.2.2.2.2 f (by omega), nI_s, fno_s]
    have e : nJ (rv (bld (r i) (r o) (ls P (r i))) f) = nI (rv (bld (r i) (r o) (ls P (r i))) f - 1) := nJ_pp (by omega)
    have er : rv (bld (r i) (r o) (ls P (r i))) f = if (ls P (r i)).testBit f then rv (r o) f else rv (r i) f := rv_bld (by omega)
    cases hb : (ls P (r i)).testBit f with
    | false =>
      rw [hb, if_neg (by decide)] at er
      rw [if_pos (show (if false = true then (1 : Int32) else 0) = 0 by decide), m_of hR h5 hi hf, Option.bind_some, ← er, e, nI_mul, nN_add]
      exact ⟨_, rfl, rfl⟩
    | true =>
      rw [hb, if_pos rfl] at er
      rw [if_neg (show ¬ (if true = true then (1 : Int32) else 0) = 0 by decide), m_of hR h5 ho hf, Option.bind_some, ← er, e, nI_mul, nN_add]
      exact ⟨_, rfl, rfl⟩) (fun t hI => by
    subst hI
    dsimp only [wX11_laysDonors_91]
    rw [hM.1, if_pos (Int32.le_refl _)]
    have eb : fno (fun f => rv (bld (r i) (r o) (ls P (r i))) f - 1) (pn P) = bF P (r i) (r o) (ls P (r i)) := rfl
    rw [eb, m_passes hO hF b1, Option.bind_some, b2]
    cases hrg : rgt P (bld (r i) (r o) (ls P (r i))) with
    | false =>
      rw [if_pos (show (if false = true then (1 : Int32) else 0) = 0 by decide), nI_s]
      exact ⟨_, rfl, g, rfl, sc_rfl g, rfl, hD⟩
    | true =>
      have hfl := far_le hO hri hro (ls P (r i)) (pn P) (Nat.le_refl _)
      rw [if_neg (show ¬ (if true = true then (1 : Int32) else 0) = 0 by decide), m_farBy hO hM hR hi ho hS, Option.bind_some]
      obtain ⟨h, w, a1, a2, a3⟩ := m_insert (x := far P (r i) (r o) (ls P (r i)) (pn P)) hD hn ho hR.2.1 (by omega) (nI i) (nI (ls P (r i)))
      rw [w]
      exact ⟨_, rfl, h, rfl, a1, a2, a3⟩) (s := ((0 : Int32), (0 : Int32))) rfl
  obtain ⟨h, q0, q⟩ := q
  exact ⟨h, by rw [w, q0], q⟩
theorem m_laysDonors (hO : pOK P) (hM : mP P g) (hF : mF P g) (hR : mR P N r g) {i : Nat} (hi : i < N) : ∃ h, nX11_laysDonors (nI i) g = some h ∧ sc g h ∧ h.1 42 0 = g.1 42 0 ∧ mD P N r i (dGt P r N i) h := by
  have h5 := hO.1
  have h7 := p2n hO
  have hN := hR.2.1
  have hri := (hR.2.2 i hi).2
  unfold nX11_laysDonors
  have c1 : sc g (zi g 42 42 0) := sc_zi rfl _ _
  rw [m_lightest hO (mP_sc c1 hM) (mF_sc c1 hF) (mR_sc c1 hR) hi, Option.bind_some]
  have c2 : sc g (zi (zi g 42 42 0) 42 36 (nI (lmN P (r i) (ls P (r i)) (2 ^ pn P)))) := sc_tr c1 (sc_zi rfl _ _)
  have v42 : (zi (zi g 42 42 0) 42 36 (nI (lmN P (r i) (ls P (r i)) (2 ^ pn P)))).1 42 42 = nI 0 := by rw [zi_else _ _ (by decide), zi_at]; rfl
  have v0 : (zi (zi g 42 42 0) 42 36 (nI (lmN P (r i) (ls P (r i)) (2 ^ pn P)))).1 42 0 = g.1 42 0 := by rw [zi_else _ _ (by decide), zi_else _ _ (by decide)]
  dsimp only
  generalize zi (zi g 42 42 0) 42 36 (nI (lmN P (r i) (ls P (r i)) (2 ^ pn P))) = z at *
  have hls := ls_spec hO (r i)
  unfold dGt
  by_cases h9 : ls P (r i) = 99
  · rw [if_pos h9]
    refine ⟨z, wh_out ?_, c2, v0, v42, fun k hk => absurd hk (Nat.not_lt_zero k)⟩
    dsimp only [wX11_laysDonors_13]
    rw [h9]
    split
    · rfl
    · rw [if_pos (show sI 99 = -1 from rfl)]; rfl
  · obtain ⟨b1, b2, _⟩ := hls.resolve_left (fun q => h9 q.1)
    have es : sI (ls P (r i)) = nI (ls P (r i)) := if_neg h9
    have hm : ∀ f, f < pn P → rv (r i) f = 0 → (ls P (r i)).testBit f = true := by
      have h := b2
      unfold cmd at h
      rw [Bool.and_eq_true, mSb_iff h5] at h
      exact h.1
    rw [if_neg h9, es]
    refine wh_up (fun o (s : Int32 × zS) => s.1 = nI o ∧ sc g s.2 ∧ s.2.1 42 0 = g.1 42 0 ∧ mD P N r i (dG P r i o) s.2) _ N (fun o s ho hI => ?_) (fun s hI => ?_) ⟨rfl, c2, v0, v42, fun k hk => absurd hk (Nat.not_lt_zero k)⟩
    · obtain ⟨i1, i2, i3, i4⟩ := hI
      obtain ⟨s1, s2⟩ := s
      dsimp only at i1 i2 i3 i4
      have hM2 := mP_sc i2 hM
      have hF2 := mF_sc i2 hF
      have hR2 := mR_sc i2 hR
      have hle := dG_le P r i o
      have hro := (hR.2.2 o ho).2
      dsimp only [wX11_laysDonors_13]
      rw [i1, hR2.1, if_neg (by rw [nN_le (by omega) (by omega)]; omega), if_neg (show ¬ nI (ls P (r i)) = (-1 : Int32) from fun q => by rw [nI_m1, nN_eqm (by omega)] at q; exact q), dG_s, nI_s]
      by_cases c : o = i
      · rw [if_pos (by rw [c]), show (o != i) = false from by simp [c], Bool.false_and, if_neg (by decide)]
        exact ⟨_, rfl, rfl, i2, i3, i4⟩
      · rw [if_neg (fun q => c ((nN_eq (by omega) (by omega)).mp q)), show (o != i) = true from by simp [c], Bool.true_and, m_passesRow hO hM2 hF2 hR2 ho, Option.bind_some]
        unfold gvB
        cases hrg : rgt P (r o) with
        | false =>
          rw [if_pos (show (if false = true then (1 : Int32) else 0) = 0 by decide), Bool.false_and, Bool.false_and, if_neg (by decide)]
          exact ⟨_, rfl, rfl, i2, i3, i4⟩
        | true =>
          rw [if_neg (show ¬ (if true = true then (1 : Int32) else 0) = 0 by decide), Bool.true_and]
          obtain ⟨h, w, a1, a2, a3⟩ := m_donors91 hO hM2 hF2 hR2 hi ho (by omega) hm (rgt_full hrg) i4 (by omega)
          have yes : ogB P (r i) (r o) (ls P (r i)) = true → ∃ s', wh (wX11_laysDonors_91 (nI i) (nI (ls P (r i))) (nI o) s2) ((0 : Int32), (0 : Int32)) = some (Sum.inl s') ∧ s'.1 = nI (o + 1) ∧ sc g s'.2 ∧ s'.2.1 42 0 = g.1 42 0 ∧ mD P N r i (if (ogB P (r i) (r o) (ls P (r i)) && rgt P (bld (r i) (r o) (ls P (r i)))) = true then dIns (dG P r i o) o (far P (r i) (r o) (ls P (r i)) (pn P)) else dG P r i o) s'.2 := fun hog => by
            rw [w, hog, Bool.true_and]
            exact ⟨_, rfl, rfl, sc_tr i2 a1, a2.trans i3, a3⟩
          rw [hM2.2.2.1]
          by_cases hg9 : pg P = 9
          · rw [if_pos (show gI (pg P) = -1 from if_pos hg9)]
            exact yes (by unfold ogB; rw [hg9]; rfl)
          · have hpg : pg P < pn P := hO.2.2.2.2.2.1.resolve_right hg9
            have eg : gI (pg P) = nI (pg P) := if_neg hg9
            have n9 : (pg P == 9) = false := by simp [hg9]
            rw [eg, if_neg (show ¬ nI (pg P) = (-1 : Int32) from fun q => by rw [nI_m1, nN_eqm (by omega)] at q; exact q), m_has (by omega) (by omega), Option.bind_some]
            cases hb : (ls P (r i)).testBit (pg P) with
            | true =>
              rw [if_neg (show ¬ (if true = true then (1 : Int32) else 0) = 0 by decide)]
              exact yes (by unfold ogB; rw [hb, n9]; rfl)
            | false =>
              have l1 := rv_lt (r o) (pg P)
              have l2 := rv_lt (r i) (pg P)
              rw [if_pos (show (if false = true then (1 : Int32) else 0) = 0 by decide), m_of hR2 h5 ho hpg, Option.bind_some, m_of hR2 h5 hi hpg, Option.bind_some]
              by_cases hv : rv (r o) (pg P) = rv (r i) (pg P)
              · rw [if_pos (by rw [hv])]
                exact yes (by unfold ogB; rw [hb, n9, hv]; simp)
              · rw [if_neg (fun q => hv ((nJ_eq (by omega) (by omega)).mp q))]
                have e0 : ogB P (r i) (r o) (ls P (r i)) = false := by
                  unfold ogB
                  rw [hb, n9, Bool.false_or, Bool.false_or, beq_eq_false_iff_ne]
                  exact fun q => hv q.symm
                rw [e0, Bool.false_and, if_neg (by decide)]
                exact ⟨_, rfl, rfl, i2, i3, i4⟩
    · obtain ⟨i1, i2, i3, i4⟩ := hI
      obtain ⟨s1, s2⟩ := s
      dsimp only at i1 i2 i3 i4
      have hR2 := mR_sc i2 hR
      dsimp only [wX11_laysDonors_13]
      rw [i1, hR2.1, if_pos (Int32.le_refl _)]
      exact ⟨_, rfl, i2, i3, i4⟩
end Me
