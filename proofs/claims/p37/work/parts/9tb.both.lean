
/-! ===== read: the lines one after another, both ===== -/
section Lp
variable {g h k : zS} {tn : Nat} {tb : Nat → Nat} {s p t : Nat} {P : zPl} {N : Nat} {r : Nat → Nat}
theorem m_fin (h5 : g.1 42 5 ≠ -1) : ∀ x, jX11_read_189 1 g = some x → wh wX11_read_43 g = some x := fun x e => wh_out (by
  unfold wX11_read_43 jX11_read_156 jX11_read_175
  rw [if_neg h5, if_neg h5, if_neg h5, e]
  rfl)
theorem m_end (hs : sk tn tb p = s) (hst : ¬ s < tn) (hX : rdX tn tb p g) (h5 : g.1 42 5 = -1) (hO : pOK P) (hD : mDf P N r g) : (pn P = 0 → ∃ h, (∀ x, jX11_read_189 1 h = some x → wh wX11_read_43 g = some x) ∧ h.1 42 5 = nI s ∧ mw wRd g h) ∧ (pn P ≠ 0 → ∃ h, (∀ x, jX11_read_189 0 h = some x → wh wX11_read_43 g = some x) ∧ h.1 42 5 = -1 ∧ mDf P N r h ∧ mw wRd g h) := by
  have hp5 := hO.1
  have ht := hX.1.2.2.1
  obtain ⟨g1, w1, a1, b1⟩ := m_here hX
  rw [hs] at w1 a1
  have h51 : g1.1 42 5 = -1 := by rw [b1.1 42 5 (by unfold wP4; omega)]; exact h5
  have D1 := mDf_mw (fun c k q => by unfold wP4 at q; omega) b1 hD
  have hs4 : s ≤ 400 := by have := a1.2.2.1; omega
  have go : wX11_read_43 g = zex (jX11_read_156 g1) := by
    unfold wX11_read_43
    rw [if_pos h5, w1, Option.bind_some]
    dsimp only
    rw [if_pos (chr_out hst)]
  constructor
  · intro c
    refine ⟨zi g1 42 5 (nI s), fun x e => wh_out ?_, zi_at _ _ _ _, mw_tr (wP4_Rd b1) (mw_zi (Or.inl ⟨rfl, Or.inr ⟨by omega, by omega⟩⟩) _ _)⟩
    rw [go]
    unfold jX11_read_156 jX11_read_175
    rw [if_pos h51, D1.1, if_pos (by rw [c]; rfl), m_wrong a1 h51, Option.bind_some, if_neg (flt_ne hs4 (zi_at _ _ _ _)), e]
    rfl
  · intro c
    refine ⟨g1, fun x e => wh_out ?_, h51, D1, wP4_Rd b1⟩
    rw [go]
    unfold jX11_read_156 jX11_read_175
    rw [if_pos h51, D1.1, if_neg (fun e => c ((nN_eq0 (by omega)).mp e)), if_pos h51, e]
    rfl
/-- the text is well: its drafts -/
def rdW (tn : Nat) (tb : Nat → Nat) (s : Nat) (P : zPl) (N : Nat) (r : Nat → Nat) (j : Nat) (g : zS) (P' : zPl) (N' : Nat) (r' : Nat → Nat) : Prop := (pOK P' ∧ nmOK P' ∧ pn P' ≠ 0) ∧ (∃ h, wh wX7_readText_23 (nI j, g) = some (1, h) ∧ cTp tn tb h ∧ cDf P' N' r' h ∧ fC g h) ∧ ∀ k p, rdX tn tb p k → sk tn tb p = s → k.1 42 5 = -1 → mDf P N r k → ∃ h, (∀ x, jX11_read_189 0 h = some x → wh wX11_read_43 k = some x) ∧ h.1 42 5 = -1 ∧ mDf P' N' r' h ∧ mwl wRd k h
def rdF (tn : Nat) (tb : Nat → Nat) (s : Nat) (P : zPl) (N : Nat) (r : Nat → Nat) (j : Nat) (g : zS) (t' : Nat) : Prop := t' ≤ tn ∧ (∃ h, wh wX7_readText_23 (nI j, g) = some (0, h) ∧ tkA tn tb t' h ∧ fC g h) ∧ ∀ k p, rdX tn tb p k → sk tn tb p = s → k.1 42 5 = -1 → mDf P N r k → ∃ h, (∀ x, jX11_read_189 1 h = some x → wh wX11_read_43 k = some x) ∧ h.1 42 5 = nI t' ∧ mwl wRd k h
theorem rd_both : ∀ (n s : Nat) (P : zPl) (N : Nat) (r : Nat → Nat) (j : Nat) (g : zS), tn - s < n → j ≤ s → pOK P → nmOK P → tkA tn tb s g → cDf P N r g → flg P N g → (∃ P' N' r', rdW tn tb s P N r j g P' N' r') ∨ ∃ t', rdF tn tb s P N r j g t'
  | 0, s, P, N, r, j, g, hn0, _, _, _, _, _, _ => absurd hn0 (Nat.not_lt_zero _)
  | n + 1, s, P, N, r, j, g, hn0, hj, hO, hn, hA, hD, hF => by
    have hp5 := hO.1
    have t4 := hA.1.2.1
    have hs := hA.2.1
    by_cases hst : s < tn
    · have pre : wX7_readText_23 (nI j, g) = ((nX7_readLine g).bind fun v3 => if v3.1 = 0 then (zex (some (((0 : Int32), v3.2)))) else ((nX7_takes (59 : Int32) v3.2).bind fun v4 => if v4.1 = 0 then (zex (some (((0 : Int32), v4.2)))) else (some (.inl ((nI j + (1 : Int32)), v4.2))))) := by
        unfold wX7_readText_23
        dsimp only
        rw [if_neg (show ¬ (400 : Int32) ≤ nI j from fun e => by have := (nN_le (a := 400) (by omega) (by omega)).mp e; omega), hA.1.1, hA.2.2.1, if_neg (fun e => by rw [nN_le (by omega) (by omega)] at e; omega)]
      have bad : ∀ {t' : Nat} {h : zS}, nX7_readLine g = some (0, h) → wh wX7_readText_23 (nI j, g) = some (0, h) := fun {t' h} e => wh_out (by rw [pre, e, Option.bind_some, if_pos rfl]; rfl)
      by_cases hw : pn P = 0 ∧ wd tn tb s ≠ wdL 0
      · refine Or.inr ⟨s, hs, ⟨g, bad (t' := s) (e_lineNo hA hD hw.2 hw.1), hA, fC_rfl _⟩, fun k p kX kp k5 kD => ?_⟩
        obtain ⟨k1, x1, x2, x3⟩ := (m_step kp hst kX k5 hO kD).2 hw
        have hne := flt_ne (t := s) (by omega) x1
        refine ⟨k1, fun x e => ?_, x1, mwl_mw x2⟩
        rw [wh_in (x3.trans (m_must_x hne))]
        exact m_fin hne x e
      · have line : (∃ t' P' N' r', lnW tn tb s P N r g t' P' N' r') ∨ ∃ t', lnF tn tb s P N r g t' := by
          by_cases q : wd tn tb s = wdL 0
          · exact ln_field hO hn hst hA hD hF q
          · exact ln_other hO hn hst hA hD q (fun e => hw ⟨e, q⟩)
        rcases line with ⟨t', P', N', r', ⟨c1, c2, c3, c4, c5⟩, ⟨h, x1, x2, x3, x4, x5⟩, c6⟩ | ⟨t', c1, ⟨h, x1, x2, x3⟩, c6⟩
        · have hstep : wX7_readText_23 (nI j, g) = ((nX7_takes (59 : Int32) h).bind fun v4 => if v4.1 = 0 then (zex (some (((0 : Int32), v4.2)))) else (some (.inl ((nI j + (1 : Int32)), v4.2)))) := by rw [pre, x1, Option.bind_some, if_neg n01]
          obtain ⟨i1, i2⟩ := e_takes x2 (59 : Int32)
          by_cases q : chr tn tb t' = 59
          · obtain ⟨h2, w2, y1, y2⟩ := i1 q
            obtain ⟨z1, z2⟩ := te_sign (tn := tn) (tb := tb) (t := t') (x := 59) (fun i hi => chr_lt x2.1 hi) (by omega) (by decide) (by decide) q
            rw [z2] at y1
            have hk := sk_le (tn := tn) (tb := tb) (p := t' + 1) z1
            have y3 : fC h h2 := fC_Cr (wT2_Cr y2)
            have ih := rd_both n (sk tn tb (t' + 1)) P' N' r' (j + 1) h2 (by omega) (by omega) c3 c4 y1 (cDf_mw (fun c k q => by unfold wT2 at q; omega) y2 x3) (flg_mw (fun c k q => by unfold wT2 at q; omega) y2 x4)
            have hin : wh wX7_readText_23 (nI j, g) = wh wX7_readText_23 (nI (j + 1), h2) := by
              rw [← nI_s]
              exact wh_in (by rw [hstep, w2, Option.bind_some, if_neg n01])
            have ref : ∀ k p, rdX tn tb p k → sk tn tb p = s → k.1 42 5 = -1 → mDf P N r k → ∃ k2, wh wX11_read_43 k = wh wX11_read_43 k2 ∧ rdX tn tb (t' + 1) k2 ∧ k2.1 42 5 = -1 ∧ mDf P' N' r' k2 ∧ mwl wRd k k2 := fun k p kX kp k5 kD => by
              obtain ⟨k0, u1, u2, u3⟩ := (m_step kp hst kX k5 hO kD).1 hw
              obtain ⟨k1, p', v1, v2, v3, v4, v5, v6⟩ := c6 k0 u1 (by rw [u2.1 42 5 (by unfold wP4; omega)]; exact k5) (mDf_mw (fun c k q => by unfold wP4 at q; omega) u2 kD)
              obtain ⟨k2, w1, w3, w4⟩ := (m_must59 v2 v4).1 (by rw [v3]; exact q)
              rw [v3] at w3
              refine ⟨k2, wh_in ?_, w3, by rw [w4.1 42 5 (by unfold wP4; omega)]; exact v4, mDf_mw (fun c k q => by unfold wP4 at q; omega) w4 v5, mwl_tr (mwl_mw (wP4_Rd u2)) (mwl_tr v6 (mwl_mw (wP4_Rd w4)))⟩
              rw [u3, v1, Option.bind_some, w1]
            rcases ih with ⟨P2, N2, r2, d1, ⟨h3, d2, d3, d4, d5⟩, d6⟩ | ⟨t2, d1, ⟨h3, d2, d3, d4⟩, d6⟩
            · refine Or.inl ⟨P2, N2, r2, d1, ⟨h3, by rw [hin]; exact d2, d3, d4, fC_tr x5 (fC_tr y3 d5)⟩, fun k p kX kp k5 kD => ?_⟩
              obtain ⟨k2, u1, u2, u3, u4, u5⟩ := ref k p kX kp k5 kD
              obtain ⟨k3, v1, v2, v3, v4⟩ := d6 k2 (t' + 1) u2 rfl u3 u4
              exact ⟨k3, fun x e => by rw [u1]; exact v1 x e, v2, v3, mwl_tr u5 v4⟩
            · refine Or.inr ⟨t2, d1, ⟨h3, by rw [hin]; exact d2, d3, fC_tr x5 (fC_tr y3 d4)⟩, fun k p kX kp k5 kD => ?_⟩
              obtain ⟨k2, u1, u2, u3, u4, u5⟩ := ref k p kX kp k5 kD
              obtain ⟨k3, v1, v2, v4⟩ := d6 k2 (t' + 1) u2 rfl u3 u4
              exact ⟨k3, fun x e => by rw [u1]; exact v1 x e, v2, mwl_tr u5 v4⟩
          · refine Or.inr ⟨t', c2, ⟨h, wh_out (by rw [hstep, i2 q, Option.bind_some, if_pos rfl]; rfl), x2, x5⟩, fun k p kX kp k5 kD => ?_⟩
            obtain ⟨k0, u1, u2, u3⟩ := (m_step kp hst kX k5 hO kD).1 hw
            obtain ⟨k1, p', v1, v2, v3, v4, v5, v6⟩ := c6 k0 u1 (by rw [u2.1 42 5 (by unfold wP4; omega)]; exact k5) (mDf_mw (fun c k q => by unfold wP4 at q; omega) u2 kD)
            obtain ⟨k2, w1, w3, w4⟩ := (m_must59 v2 v4).2 (by rw [v3]; exact q)
            rw [v3] at w3
            have hne := flt_ne (t := t') (by omega) w3
            refine ⟨k2, fun x e => ?_, w3, mwl_tr (mwl_mw (wP4_Rd u2)) (mwl_tr v6 (mwl_mw w4))⟩
            have hin : wX11_read_43 k = some (.inl k2) := by rw [u3, v1, Option.bind_some, w1]
            rw [wh_in hin]
            exact m_fin hne x e
        · refine Or.inr ⟨t', c1, ⟨h, bad (t' := t') x1, x2, x3⟩, fun k p kX kp k5 kD => ?_⟩
          obtain ⟨k0, u1, u2, u3⟩ := (m_step kp hst kX k5 hO kD).1 hw
          obtain ⟨k1, v1, v2, v6⟩ := c6 k0 u1 (by rw [u2.1 42 5 (by unfold wP4; omega)]; exact k5) (mDf_mw (fun c k q => by unfold wP4 at q; omega) u2 kD)
          have hne := flt_ne (t := t') (by omega) v2
          refine ⟨k1, fun x e => ?_, v2, mwl_tr (mwl_mw (wP4_Rd u2)) v6⟩
          have hin : wX11_read_43 k = some (.inl k1) := by rw [u3, v1, Option.bind_some, m_must_x hne]
          rw [wh_in hin]
          exact m_fin hne x e
    · have hend : wX7_readText_23 (nI j, g) = zex (jX7_readText_68 g) := by
        unfold wX7_readText_23
        dsimp only
        by_cases q : (400 : Int32) ≤ nI j
        · rw [if_pos q]
        · rw [if_neg q, hA.1.1, hA.2.2.1, if_pos ((nN_le (by omega) (by omega)).mpr (by omega))]
      by_cases c : pn P = 0
      · refine Or.inr ⟨s, hs, ⟨g, wh_out ?_, hA, fC_rfl _⟩, fun k p kX kp k5 kD => ?_⟩
        · rw [hend]
          unfold jX7_readText_68
          rw [hD.1, c, if_pos (show nI 0 ≤ (0 : Int32) by decide)]
          rfl
        · obtain ⟨h, x1, x2, x3⟩ := (m_end kp hst kX k5 hO kD).1 c
          exact ⟨h, x1, x2, mwl_mw x3⟩
      · refine Or.inl ⟨P, N, r, ⟨hO, hn, c⟩, ⟨g, wh_out ?_, hA.1, hD, fC_rfl _⟩, fun k p kX kp k5 kD => ?_⟩
        · rw [hend]
          unfold jX7_readText_68
          rw [hD.1, if_neg (show ¬ nI (pn P) ≤ (0 : Int32) from fun e => c (Nat.le_zero.mp ((nN_le (b := 0) (by omega) (by omega)).mp e)))]
          rfl
        · obtain ⟨h, x1, x2, x3, x4⟩ := (m_end kp hst kX k5 hO kD).2 c
          exact ⟨h, x1, x2, x3, mwl_mw x4⟩
end Lp
