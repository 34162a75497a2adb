
/-! ===== read: a row's line, the reference ===== -/
section Rm
variable {g h k : zS} {tn : Nat} {tb : Nat → Nat} {s p : Nat} {P : zPl} {N : Nat} {r : Nat → Nat}
theorem wP4_Rd (a : mw wP4 g h) : mw wRd g h := mw_le (fun c k q => by unfold wP4 at q; unfold wRd; omega) a
theorem wP45_Rd (a : mw wP45 g h) : mw wRd g h := mw_le (fun c k q => by unfold wP45 at q; unfold wRd; omega) a
theorem mDf_49 (h5 : pn P ≤ 5) {f : Nat} {x : Int32} (d : mDf P N r g) : mDf P N r (zi g 49 (5 * N + f) x) := by
  obtain ⟨d0, d1, d2, d3, d4, d5, d6, d7, d8, d9⟩ := d
  refine ⟨by rw [zi_else _ _ (by omega)]; exact d0, by rw [zi_else _ _ (by omega)]; exact d1, by rw [zi_else _ _ (by omega)]; exact d2, by rw [zi_else _ _ (by omega)]; exact d3, d4, fun f hf => by rw [zi_cell _ _ (by omega)]; exact d5 f hf, fun f hf => by rw [zi_cell _ _ (by omega)]; exact d6 f hf, fun f hf => by rw [zi_cell _ _ (by omega)]; exact d7 f hf, fun e he f hf => by rw [zi_cell _ _ (by omega)]; exact d8 e he f hf, fun k hk e he => ?_⟩
  rw [zi_else _ _ (by omega)]
  exact d9 k hk e he
theorem rdX_49 {i : Nat} {x : Int32} (hX : rdX tn tb p g) : rdX tn tb p (zi g 49 i x) := ⟨rdT_mw (W := fun c _ => c = 49) (fun c k q => by omega) (mw_zi (W := fun c _ => c = 49) rfl _ _) hX.1, by rw [zi_else _ _ (by omega)]; exact hX.2.1, hX.2.2⟩
theorem m_row34 (hO : pOK P) (hN : N < 40) : ∀ k f t c p (g : zS), f + k = pn P → rOKf P f c → rdX tn tb p g → sk tn tb p = t → g.1 42 5 = -1 → mDf P N r g → (∀ e, e < f → g.1 49 (5 * N + e) = nJ (rv c e)) → (∀ t' c', rowR P tn tb k f t c = .inl (t', c') → ∃ h p', wh (wX11_rowLine_34 ) (nI f, g) = some h ∧ rdX tn tb p' h ∧ sk tn tb p' = t' ∧ h.1 42 5 = -1 ∧ mDf P (N + 1) (upA r N c') h ∧ mw wRd g h) ∧ (∀ t', rowR P tn tb k f t c = .inr t' → ∃ h, wh (wX11_rowLine_34 ) (nI f, g) = some h ∧ h.1 42 5 = nI t' ∧ mw wRd g h) := by
  have h5 := hO.1
  intro k
  induction k with
  | zero =>
    intro f t c p g hf hc hX hp h5g hD hr
    have ef : f = pn P := by omega
    subst ef
    refine ⟨fun t' c' e => ?_, fun t' e => by cases e⟩
    have e1 : t = t' := congrArg Prod.fst (Sum.inl.inj e)
    have e2 : c = c' := congrArg Prod.snd (Sum.inl.inj e)
    subst e1 e2
    have m1 : mw wRd g (zi g 42 8 (nI (N + 1))) := mw_zi (Or.inl ⟨rfl, Or.inr ⟨by omega, by omega⟩⟩) _ _
    refine ⟨zi g 42 8 (nI (N + 1)), p, wh_out ?_, ⟨rdT_mw (W := fun c k => c = 42 ∧ k = 8) (fun c k q => by omega) (mw_zi ⟨rfl, rfl⟩ _ _) hX.1, by rw [zi_else _ _ (by omega)]; exact hX.2.1, hX.2.2⟩, hp, by rw [zi_else _ _ (by omega)]; exact h5g, ?_, m1⟩
    · unfold wX11_rowLine_34
      dsimp only
      rw [hD.1, if_pos (Int32.le_refl _), hD.2.2.1, nI_s]
      rfl
    · obtain ⟨d0, d1, d2, d3, d4, d5, d6, d7, d8, d9⟩ := hD
      refine ⟨by rw [zi_else _ _ (by omega)]; exact d0, by rw [zi_else _ _ (by omega)]; exact d1, zi_at _ _ _ _, by rw [zi_else _ _ (by omega)]; exact d3, d4, fun f hf => by rw [zi_cell _ _ (by omega)]; exact d5 f hf, fun f hf => by rw [zi_cell _ _ (by omega)]; exact d6 f hf, fun f hf => by rw [zi_cell _ _ (by omega)]; exact d7 f hf, fun e he f hf => by rw [zi_cell _ _ (by omega)]; exact d8 e he f hf, fun j hj e he => ?_⟩
      rw [zi_cell _ _ (by omega)]
      show g.1 49 (5 * j + e) = nJ (rv (if j = N then c else r j) e)
      by_cases q : j = N
      · rw [if_pos q, q]; exact hr e he
      · rw [if_neg q]; exact d9 j (by omega) e he
  | succ k ih =>
    intro f t c p g hf hc hX hp h5g hD hr
    have hff : f < pn P := by omega
    have hq := hO.2.1 f hff
    obtain ⟨g1, w1, a1, a2⟩ := m_here hX
    rw [hp] at w1 a1
    have h51 : g1.1 42 5 = -1 := by rw [a2.1 42 5 (by unfold wP4; omega)]; exact h5g
    have hD1 := mDf_mw (fun c k q => by unfold wP4 at q; omega) a2 hD
    have hr1 : ∀ e, e < f → g1.1 49 (5 * N + e) = nJ (rv c e) := fun e he => by rw [a2.1 49 _ (by unfold wP4; omega)]; exact hr e he
    have ht400 := hX.1.2.2.1
    have hs1 : sk tn tb t = t := by rw [← hp]; exact sk_sk hX.2.2.1
    have hb : ∀ j, j < tn → tb j < 256 := hX.1.2.2.2
    have e5N : (5 : Int32) * nI N + nI f = nI (5 * N + f) := by rw [show (5 : Int32) * nI N = nI (5 * N) from nI_mul 5 N, nN_add]
    unfold rowR
    by_cases q : chr tn tb t = 63
    · obtain ⟨q1, q2⟩ := te_63 hb q
      rw [if_pos q]
      obtain ⟨z, ez⟩ : ∃ z, z = zi (zi g1 49 (5 * N + f) (-1)) 42 4 (nI (t + 1)) := ⟨_, rfl⟩
      have hst : wX11_rowLine_34 (nI f, g) = some (.inl (nI (f + 1), z)) := by
        unfold wX11_rowLine_34
        dsimp only
        rw [hD.1, if_neg (fun e => by rw [nN_le (by omega) (by omega)] at e; omega), if_pos h5g, w1, Option.bind_some]
        dsimp only
        rw [if_pos q]
        unfold jX11_rowLine_64 jX11_rowLine_98
        rw [if_neg n01, hD1.2.2.1, e5N, zchk_t (zin_nI (by omega) (by omega)), if_neg n01, nI_cl (by omega), zi_else (c := 49) (d := 42) (i := 4) _ _ (by omega), a1.2.1, nI_s, nI_s, ez]
      have mz : mw wRd g z := by rw [ez]; exact mw_tr (wP4_Rd a2) (mw_tr (mw_zi (Or.inr ⟨by omega, by omega⟩) _ _) (mw_zi (Or.inl ⟨rfl, Or.inr ⟨by omega, by omega⟩⟩) _ _))
      have zX : rdX tn tb (t + 1) z := by rw [ez]; exact rdX_mv (rdX_49 a1) (by omega)
      have zD : mDf P N r z := by rw [ez]; exact mDf_mw (W := wP4) (fun c k q => by unfold wP4 at q; omega) (mw_zi ⟨rfl, rfl⟩ _ _) (mDf_49 h5 hD1)
      have z5 : z.1 42 5 = -1 := by rw [ez, zi_else _ _ (by omega), zi_else _ _ (by omega)]; exact h51
      have zr : ∀ e, e < f + 1 → z.1 49 (5 * N + e) = nJ (rv c e) := fun e he => by
        rw [ez, zi_else _ _ (by omega)]
        by_cases q3 : e = f
        · rw [q3, zi_at, hc.2.2 f (Nat.le_refl _) (by omega), nJ_0]
        · rw [zi_else _ _ (by omega)]; exact hr1 e (by omega)
      rw [wh_in hst, q2]
      obtain ⟨i1, i2⟩ := ih (f + 1) (sk tn tb (t + 1)) c (t + 1) z (by omega) (rOKf_n hO hff hc) zX rfl z5 zD zr
      refine ⟨fun t' c' e => ?_, fun t' e => ?_⟩
      · obtain ⟨h, p', w2, x1, x2, x3, x4, x5⟩ := i1 t' c' e
        exact ⟨h, p', w2, x1, x2, x3, x4, mw_tr mz x5⟩
      · obtain ⟨h, w2, x1, x5⟩ := i2 t' e
        exact ⟨h, w2, x1, mw_tr mz x5⟩
    · rw [if_neg q]
      obtain ⟨n1, n2⟩ := m_digit (lo := 0) (hi := pq P f - 1) a1 h51 (by omega) (by omega)
      rw [hs1] at n1 n2
      have e45 : g1.1 45 f - (1 : Int32) = nI (pq P f - 1) := by rw [hD1.2.2.2.2.2.1 f hff]; exact nI_sub (b := 1) (by omega)
      have pre : ∀ v z, nX11_digit (0 : Int32) (nI (pq P f - 1)) g1 = some (v, z) → wX11_rowLine_34 (nI f, g) = jX11_rowLine_98 (nI f) 0 (nI (5 * N + f)) v z := fun v z e => by
        unfold wX11_rowLine_34
        dsimp only
        rw [hD.1, if_neg (fun e => by rw [nN_le (by omega) (by omega)] at e; omega), if_pos h5g, w1, Option.bind_some]
        dsimp only
        rw [if_neg q]
        unfold jX11_rowLine_64
        rw [if_pos rfl, zchk_t (zin_nI (by omega) (by omega)), nI_cl (by omega), e45, e, Option.bind_some, hD1.2.2.1, e5N]
      by_cases d : dgO tn tb t 0 (pq P f - 1)
      · rw [if_pos d]
        obtain ⟨g2, w2, b1, b2⟩ := n1 d
        have hte : te tn tb t = t + 1 := by have := d.1; have := d.2.1; omega
        obtain ⟨z, ez⟩ : ∃ z, z = zi g2 49 (5 * N + f) (nI (tb t - 48)) := ⟨_, rfl⟩
        have hst : wX11_rowLine_34 (nI f, g) = some (.inl (nI (f + 1), z)) := by
          rw [pre _ _ w2]
          unfold jX11_rowLine_98
          rw [zchk_t (zin_nI (by omega) (by omega)), if_pos rfl, nI_cl (by omega), nI_s, ez]
        have h52 : g2.1 42 5 = -1 := by rw [b2.1 42 5 (by unfold wP4; omega)]; exact h51
        have hD2 := mDf_mw (fun c k q => by unfold wP4 at q; omega) b2 hD1
        have mz : mw wRd g z := by rw [ez]; exact mw_tr (wP4_Rd a2) (mw_tr (wP4_Rd b2) (mw_zi (Or.inr ⟨by omega, by omega⟩) _ _))
        have zX : rdX tn tb (t + 1) z := by rw [ez]; exact rdX_49 b1
        have zD : mDf P N r z := by rw [ez]; exact mDf_49 h5 hD2
        have z5 : z.1 42 5 = -1 := by rw [ez, zi_else _ _ (by omega)]; exact h52
        have hdv : tb t - 48 + 1 ≤ pq P f := by have := d.2.2.2; omega
        have zr : ∀ e, e < f + 1 → z.1 49 (5 * N + e) = nJ (rv (wa c f (tb t - 48 + 1)) e) := fun e he => by
          rw [rv_wa (by omega) (by omega) (by omega), ez]
          by_cases q3 : e = f
          · rw [q3, zi_at, if_pos rfl, nJ_s]
          · rw [zi_else _ _ (by omega), if_neg q3, b2.1 49 _ (by unfold wP4; omega)]; exact hr1 e (by omega)
        rw [wh_in hst, hte]
        obtain ⟨i1, i2⟩ := ih (f + 1) (sk tn tb (t + 1)) (wa c f (tb t - 48 + 1)) (t + 1) z (by omega) (rOKf_s hO hff hc hdv) zX rfl z5 zD zr
        refine ⟨fun t' c' e => ?_, fun t' e => ?_⟩
        · obtain ⟨h, p', w2, x1, x2, x3, x4, x5⟩ := i1 t' c' e
          exact ⟨h, p', w2, x1, x2, x3, x4, mw_tr mz x5⟩
        · obtain ⟨h, w2, x1, x5⟩ := i2 t' e
          exact ⟨h, w2, x1, mw_tr mz x5⟩
      · rw [if_neg d]
        refine ⟨fun t' c' e => (by cases e), fun t' e => ?_⟩
        have e1 : t = t' := Sum.inr.inj e
        subst e1
        obtain ⟨g2, w2, b1, b3, b2⟩ := n2 d
        obtain ⟨z, ez⟩ : ∃ z, z = zi g2 49 (5 * N + f) (nI 0) := ⟨_, rfl⟩
        have hst : wX11_rowLine_34 (nI f, g) = some (.inl (nI (f + 1), z)) := by
          rw [pre _ _ w2]
          unfold jX11_rowLine_98
          rw [zchk_t (zin_nI (by omega) (by omega)), if_pos rfl, nI_cl (by omega), nI_s, ez]
        have mz : mw wRd g z := by rw [ez]; exact mw_tr (wP4_Rd a2) (mw_tr (wP45_Rd b2) (mw_zi (Or.inr ⟨by omega, by omega⟩) _ _))
        have z5 : z.1 42 5 = nI t := by rw [ez, zi_else _ _ (by omega)]; exact b3
        have hst2 : wX11_rowLine_34 (nI (f + 1), z) = some (.inr (zi z 42 8 (z.1 42 8 + 1))) := by
          unfold wX11_rowLine_34
          dsimp only
          by_cases q3 : z.1 42 6 ≤ nI (f + 1)
          · rw [if_pos q3]; rfl
          · rw [if_neg q3, if_neg (fun e => by
              rw [z5, nI_m1, nN_eqm (by have := hX.2.2.1; have := (sk_le (tb := tb) hX.2.2.1).2; omega)] at e
              exact e)]
            rfl
        rw [wh_in hst, wh_out hst2]
        exact ⟨_, rfl, by rw [zi_else _ _ (by omega)]; exact z5, mw_tr mz (mw_zi (Or.inl ⟨rfl, Or.inr ⟨by omega, by omega⟩⟩) _ _)⟩
/-- what a line gives: the next token and the draft, or the token that is wrong -/
theorem e_readRow (hO : pOK P) (hN : N < 40) (hA : tkA tn tb s g) (hD : cDf P N r g) : (∀ t' c', rowR P tn tb (pn P) 0 (sk tn tb (te tn tb s)) 0 = .inl (t', c') → ∃ h, nX7_readRow g = some (1, h) ∧ tkA tn tb t' h ∧ cDf P (N + 1) (upA r N c') h ∧ mw wCr g h) ∧ (∀ t', rowR P tn tb (pn P) 0 (sk tn tb (te tn tb s)) 0 = .inr t' → ∃ h, nX7_readRow g = some (0, h) ∧ tkA tn tb t' h ∧ mw wCr g h) := by
  obtain ⟨g1, w, b1, b2⟩ := e_nextA hA
  obtain ⟨i1, i2⟩ := e_row8 (r := r) hO hN (pn P) 0 (sk tn tb (te tn tb s)) 0 g1 (by omega) rOKf_0 b1 (cDf_mw (fun c k q => by unfold wT2 at q; omega) b2 hD)
  unfold nX7_readRow
  rw [w, Option.bind_some]
  refine ⟨fun t' c' e => ?_, fun t' e => ?_⟩
  · obtain ⟨h, w2, x1, x2, x3⟩ := i1 t' c' e
    exact ⟨h, w2, x1, x2, mw_tr (wT2_Cr b2) x3⟩
  · obtain ⟨h, w2, x1, x3⟩ := i2 t' e
    exact ⟨h, w2, x1, mw_tr (wT2_Cr b2) x3⟩
theorem m_rowLine (hO : pOK P) (hN : N < 40) (hX : rdX tn tb s g) (hs : wd tn tb s = wdL 8) (h5 : g.1 42 5 = -1) (hD : mDf P N r g) : (∀ t' c', rowR P tn tb (pn P) 0 (sk tn tb (te tn tb s)) 0 = .inl (t', c') → ∃ h p', nX11_rowLine g = some h ∧ rdX tn tb p' h ∧ sk tn tb p' = t' ∧ h.1 42 5 = -1 ∧ mDf P (N + 1) (upA r N c') h ∧ mw wRd g h) ∧ (∀ t', rowR P tn tb (pn P) 0 (sk tn tb (te tn tb s)) 0 = .inr t' → ∃ h, nX11_rowLine g = some h ∧ h.1 42 5 = nI t' ∧ mw wRd g h) := by
  have hl := (wd_eq.mp hs).1
  have hl3 : (wdL 8).length = 3 := rfl
  have hrl := rn_le (tn := tn) (tb := tb) isLt s
  have ht : s < tn := by omega
  have hte : te tn tb s = s + 3 := by
    unfold te
    rw [if_pos ht, if_pos ((rn_pos (tn := tn) (tb := tb) ht).mp (by omega))]
    omega
  have zX : rdX tn tb (s + 3) (zi g 42 4 (nI (s + 3))) := rdX_mv hX (by omega)
  have zm : mw wP4 g (zi g 42 4 (nI (s + 3))) := mw_zi ⟨rfl, rfl⟩ _ _
  obtain ⟨i1, i2⟩ := m_row34 (r := r) hO hN (pn P) 0 (sk tn tb (s + 3)) 0 (s + 3) _ (by omega) rOKf_0 zX rfl (by rw [zi_else _ _ (by omega)]; exact h5) (mDf_mw (fun c k q => by unfold wP4 at q; omega) zm hD) (fun e he => by omega)
  have hgo : nX11_rowLine g = wh (wX11_rowLine_34 ) (nI 0, zi g 42 4 (nI (s + 3))) := by
    unfold nX11_rowLine jX11_rowLine_13
    rw [hD.2.2.1, if_neg (show ¬ nI N = (40 : Int32) from fun e => by have := (nN_eq (b := 40) (by omega) (by omega)).mp e; omega), if_pos h5, hX.2.1, show nI s + (3 : Int32) = nI (s + 3) from nN_add s 3]
    rfl
  rw [hgo, hte]
  refine ⟨fun t' c' e => ?_, fun t' e => ?_⟩
  · obtain ⟨h, p', w2, x1, x2, x3, x4, x5⟩ := i1 t' c' e
    exact ⟨h, p', w2, x1, x2, x3, x4, mw_tr (wP4_Rd zm) x5⟩
  · obtain ⟨h, w2, x1, x5⟩ := i2 t' e
    exact ⟨h, w2, x1, mw_tr (wP4_Rd zm) x5⟩
end Rm
