
/-! ===== read: an edit's line, the reference's start of it ===== -/
section En
variable {g h k : zS} {tn : Nat} {tb : Nat → Nat} {s p : Nat} {P : zPl} {N : Nat} {r : Nat → Nat}
theorem m_editLine (hO : pOK P) (hn : nmOK P) (hm : pm P < 6) (hX : rdX tn tb s g) (hs : wd tn tb s = wdL 5) (h5 : g.1 42 5 = -1) (hD : mDf P N r g) : (∀ t' V', edR P tn tb 6 (sk tn tb (te tn tb s)) 0 (aV P) = .inl (t', V') → ∃ h p', nX11_editLine g = some h ∧ rdX tn tb p' h ∧ sk tn tb p' = t' ∧ h.1 42 5 = -1 ∧ mDf (wE P V') N r h ∧ mw wRd g h) ∧ (∀ t', edR P tn tb 6 (sk tn tb (te tn tb s)) 0 (aV P) = .inr t' → ∃ h, nX11_editLine g = some h ∧ h.1 42 5 = nI t' ∧ mw wRd g h) := by
  have hp5 := hO.1
  obtain ⟨ht, hte, hle⟩ := word_te (k := 5) (L := 4) rfl (by omega) hs
  rw [hte]
  have key : ∃ z, nX11_editLine g = wh (wX11_editLine_75 ) (nI 0, (1 : Int32), z) ∧ rdX tn tb (s + 4) z ∧ z.1 42 5 = -1 ∧ mDf P N r z ∧ (∀ f, f < pn P → z.1 48 (5 * pm P + f) = nI (aV P f)) ∧ mw wRd g z := by
    have lp : ∀ j, j ≤ pn P → ∀ z, rdX tn tb (s + 4) z → z.1 42 5 = -1 → mDf P N r z → (∀ f, f < pn P - j → z.1 48 (5 * pm P + f) = nI (aV P f)) → mw wRd g z → ∃ y, wh (wX11_editLine_36 (0 : Int32)) (nI (pn P - j), z) = wh (wX11_editLine_75 ) (nI 0, (1 : Int32), y) ∧ rdX tn tb (s + 4) y ∧ y.1 42 5 = -1 ∧ mDf P N r y ∧ (∀ f, f < pn P → y.1 48 (5 * pm P + f) = nI (aV P f)) ∧ mw wRd g y := by
      intro j
      induction j with
      | zero =>
        intro _ z z1 z2 z3 z4 z5
        refine ⟨z, ?_, z1, z2, z3, z4, z5⟩
        have hst : wX11_editLine_36 (0 : Int32) (nI (pn P - 0), z) = zex (wh (wX11_editLine_75 ) (nI 0, (1 : Int32), z)) := by
          unfold wX11_editLine_36
          dsimp only
          rw [z3.1, Nat.sub_zero, if_pos (Int32.le_refl _)]
          rfl
        rw [wh_eq, hst]
        cases wh (wX11_editLine_75 ) (nI 0, (1 : Int32), z) <;> rfl
      | succ j ih =>
        intro hj z z1 z2 z3 z4 z5
        obtain ⟨f, ef⟩ : ∃ f, f = pn P - (j + 1) := ⟨_, rfl⟩
        have hf : f < pn P := by omega
        have hq := hO.2.1 f hf
        have hst : wX11_editLine_36 (0 : Int32) (nI f, z) = some (.inl (nI (f + 1), zi z 48 (5 * pm P + f) (nI (aV P f)))) := by
          unfold wX11_editLine_36
          dsimp only
          rw [z3.1, if_neg (fun e => by rw [nN_le (by omega) (by omega)] at e; omega), zchk_t (zin_nI (by omega) (by omega)), z3.2.1, show (5 : Int32) * nI (pm P) = nI (5 * pm P) from nI_mul 5 _, nN_add, zchk_t (zin_nI (by omega) (by omega)), nI_cl (by omega), nI_cl (by omega), z3.2.2.2.2.2.1 f hf, nI_shl (by omega), nI_s, show nI (2 ^ pq P f) - (1 : Int32) = nI (aV P f) from nI_sub (b := 1) (Nat.pow_pos (by omega))]
        rw [← ef, wh_in hst, show f + 1 = pn P - j by omega]
        refine ih (by omega) _ (rdX_48 z1) (by rw [zi_else _ _ (by omega)]; exact z2) (mDf_48 hp5 z3) (fun e he => ?_) (mw_tr z5 (mw_zi (Or.inr ⟨by omega, by omega⟩) _ _))
        by_cases q : e = f
        · rw [q, zi_at]
        · rw [zi_else _ _ (by omega)]; exact z4 e (by omega)
    have zX : rdX tn tb (s + 4) (zi g 42 4 (nI (s + 4))) := rdX_mv hX hle
    have zm : mw wP4 g (zi g 42 4 (nI (s + 4))) := mw_zi ⟨rfl, rfl⟩ _ _
    obtain ⟨y, w, y1⟩ := lp (pn P) (Nat.le_refl _) _ zX (by rw [zi_else _ _ (by omega)]; exact h5) (mDf_mw (fun c k q => by unfold wP4 at q; omega) zm hD) (fun f hf => by omega) (wP4_Rd zm)
    refine ⟨y, ?_, y1⟩
    rw [← w, Nat.sub_self]
    unfold nX11_editLine jX11_editLine_13
    rw [hD.2.1, if_neg (show ¬ nI (pm P) = (6 : Int32) from fun e => by have := (nN_eq (b := 6) (by omega) (by omega)).mp e; omega), if_pos h5, hX.2.1, show nI s + (4 : Int32) = nI (s + 4) from nN_add s 4]
    rfl
  obtain ⟨z, w, z1, z2, z3, z4, z5⟩ := key
  obtain ⟨i1, i2⟩ := m_edit75 (r := r) hO hn hm 6 (sk tn tb (s + 4)) (s + 4) 0 (aV P) 0 z z1 rfl (by omega) (cnt_zero (fun i hi => Nat.zero_testBit i)) (by omega) z2 z3 z4
  rw [w]
  refine ⟨fun t' V' e => ?_, fun t' e => ?_⟩
  · obtain ⟨h, p', w2, r1, r2, r3, r4, r5⟩ := i1 t' V' e
    exact ⟨h, p', w2, r1, r2, r3, r4, mw_tr z5 r5⟩
  · obtain ⟨h, w2, r1, r5⟩ := i2 t' e
    exact ⟨h, w2, r1, mw_tr z5 r5⟩
end En
