
/-! ===== read: the group's line; spans ===== -/
section Gr
variable {g h k : zS} {tn : Nat} {tb : Nat → Nat} {s p : Nat} {P : zPl} {N : Nat} {r : Nat → Nat}
/-- the plan with its group -/
def wG (P : zPl) (x : Nat) : zPl := (P.1, P.2.1, P.2.2.1, P.2.2.2.1, x, P.2.2.2.2.2)
theorem wG_ok (hO : pOK P) {x : Nat} (hx : x < pn P) : pOK (wG P x) := ⟨hO.1, hO.2.1, hO.2.2.1, hO.2.2.2.1, hO.2.2.2.2.1, Or.inl hx, hO.2.2.2.2.2.2⟩
theorem word_te {k L : Nat} (hk : (wdL k).length = L) (hL : 0 < L) (hs : wd tn tb s = wdL k) : s < tn ∧ te tn tb s = s + L ∧ s + L ≤ tn := by
  have hl := (wd_eq.mp hs).1
  have hrl := rn_le (tn := tn) (tb := tb) isLt s
  have ht : s < tn := by omega
  refine ⟨ht, ?_, by omega⟩
  unfold te
  rw [if_pos ht, if_pos ((rn_pos (tn := tn) (tb := tb) ht).mp (by omega))]
  omega
theorem nm_te (h : isNm tn tb s = true) : s < tn ∧ te tn tb s = s + rn tn tb isLt s ∧ s + rn tn tb isLt s ≤ tn := by
  have hq := (isNm_iff.mp h).1
  have hrl := rn_le (tn := tn) (tb := tb) isLt s
  have ht : s < tn := by omega
  refine ⟨ht, ?_, by omega⟩
  unfold te
  rw [if_pos ht, if_pos ((rn_pos (tn := tn) (tb := tb) ht).mp (by omega))]
theorem e_readGroup (hO : pOK P) (hn : nmOK P) (hA : tkA tn tb s g) (hD : cDf P N r g) : (told tn tb P (sk tn tb (te tn tb s)) < pn P → ∃ h, nX7_readGroup g = some (1, h) ∧ tkA tn tb (sk tn tb (te tn tb (sk tn tb (te tn tb s)))) h ∧ cDf (wG P (told tn tb P (sk tn tb (te tn tb s)))) N r h ∧ mw wCr g h) ∧ (¬ told tn tb P (sk tn tb (te tn tb s)) < pn P → ∃ h, nX7_readGroup g = some (0, h) ∧ tkA tn tb (sk tn tb (te tn tb s)) h ∧ mw wCr g h) := by
  have h5 := hO.1
  obtain ⟨g1, w, b1, b2⟩ := e_nextA hA
  have hD1 := cDf_mw (fun c k q => by unfold wT2 at q; omega) b2 hD
  unfold nX7_readGroup
  rw [w, Option.bind_some, e_toldField hO hn b1 hD1, Option.bind_some]
  constructor
  · intro q
    have m1 : mw wCr g1 (zi g1 11 6 (nI (told tn tb P (sk tn tb (te tn tb s))))) := mw_zi (Or.inl ⟨by omega, by omega⟩) _ _
    have zA : tkA tn tb (sk tn tb (te tn tb s)) (zi g1 11 6 (nI (told tn tb P (sk tn tb (te tn tb s))))) := ⟨cTp_mw (fun c k q => by unfold wCr at q; omega) m1 b1.1, b1.2.1, by rw [zi_else _ _ (by omega)]; exact b1.2.2.1, by rw [zi_else _ _ (by omega)]; exact b1.2.2.2⟩
    obtain ⟨g2, w2, c1, c2⟩ := e_nextA zA
    rw [if_pos q, if_neg (fun e => by rw [nI_m1, nN_eqm (by omega)] at e; exact e), w2, Option.bind_some]
    refine ⟨g2, rfl, c1, cDf_mw (fun c k q => by unfold wT2 at q; omega) c2 ?_, mw_tr (wT2_Cr b2) (mw_tr m1 (wT2_Cr c2))⟩
    obtain ⟨d0, d1, d2, d3, d4, d5, d6, d7, d8, d9, d10⟩ := hD1
    refine ⟨by rw [zi_else _ _ (by omega)]; exact d0, fun f hf => by rw [zi_cell _ _ (by omega)]; exact d1 f hf, fun f hf => by rw [zi_cell _ _ (by omega)]; exact d2 f hf, fun f hf => by rw [zi_cell _ _ (by omega)]; exact d3 f hf, ?_, by rw [zi_else _ _ (by omega)]; exact d5, fun e he f hf => by rw [zi_cell _ _ (by omega)]; exact d6 e he f hf, fun f hf => by rw [zi_cell _ _ (show 16 ≠ 11 by omega), zi_cell _ _ (show 15 ≠ 11 by omega)]; exact d7 f hf, by rw [zi_else _ _ (by omega)]; exact d8, d9, fun j hj => by rw [zi_cell _ _ (by omega)]; exact d10 j hj⟩
    rw [zi_at]
    show _ = gI (told tn tb P (sk tn tb (te tn tb s)))
    unfold gI
    rw [if_neg (by omega)]
  · intro q
    rw [if_neg q, if_pos rfl]
    exact ⟨g1, rfl, b1, wT2_Cr b2⟩
theorem m_groupLine (hO : pOK P) (hn : nmOK P) (hX : rdX tn tb s g) (hs : wd tn tb s = wdL 4) (h5 : g.1 42 5 = -1) (hpg : pg P = 9) (hD : mDf P N r g) : (told tn tb P (sk tn tb (te tn tb s)) < pn P → ∃ h p', nX11_groupLine g = some h ∧ rdX tn tb p' h ∧ sk tn tb p' = sk tn tb (te tn tb (sk tn tb (te tn tb s))) ∧ h.1 42 5 = -1 ∧ mDf (wG P (told tn tb P (sk tn tb (te tn tb s)))) N r h ∧ mw wRd g h) ∧ (¬ told tn tb P (sk tn tb (te tn tb s)) < pn P → ∃ h, nX11_groupLine g = some h ∧ h.1 42 5 = nI (sk tn tb (te tn tb s)) ∧ mw wRd g h) := by
  have hp5 := hO.1
  obtain ⟨ht, hte, hle⟩ := word_te (k := 4) (L := 5) rfl (by omega) hs
  rw [hte]
  have zX : rdX tn tb (s + 5) (zi g 42 4 (nI (s + 5))) := rdX_mv hX hle
  have zm : mw wP4 g (zi g 42 4 (nI (s + 5))) := mw_zi ⟨rfl, rfl⟩ _ _
  have zD := mDf_mw (fun c k q => by unfold wP4 at q; omega) zm hD
  obtain ⟨g1, w1, a1, a2⟩ := m_fieldHere hO hn zX zD
  have hsk := sk_le (tb := tb) hle
  have hD1 := mDf_mw (fun c k q => by unfold wP4 at q; omega) a2 zD
  have h51 : g1.1 42 5 = -1 := by rw [a2.1 42 5 (by unfold wP4; omega), zi_else _ _ (by omega)]; exact h5
  have go : nX11_groupLine g = (nX11_fieldHere (zi g 42 4 (nI (s + 5)))).bind fun v1 => if ((zi v1.2 42 9 v1.1).1 42 9) = (-1 : Int32) then ((nX11_wrong (zi v1.2 42 9 v1.1)).bind fun v3 => some (v3)) else ((nX11_wordSize (zi v1.2 42 9 v1.1)).bind fun v2 => some ((zi v2.2 42 4 (((zi v1.2 42 9 v1.1).1 42 4) + v2.1)))) := by
    unfold nX11_groupLine jX11_groupLine_12
    rw [hD.2.2.2.1, hpg, if_pos (show gI 9 = -1 from rfl), if_pos h5, hX.2.1, show nI s + (5 : Int32) = nI (s + 5) from nN_add s 5]
  rw [go, w1, Option.bind_some]
  dsimp only
  have X9 : ∀ x, rdX tn tb (sk tn tb (s + 5)) (zi g1 42 9 x) := fun x => ⟨rdT_mw (W := fun c k => c = 42 ∧ k = 9) (fun c k q => by omega) (mw_zi ⟨rfl, rfl⟩ _ _) a1.1, by rw [zi_else _ _ (by omega)]; exact a1.2.1, a1.2.2⟩
  have m9 : ∀ x, mw wRd g (zi g1 42 9 x) := fun x => mw_tr (wP4_Rd zm) (mw_tr (wP4_Rd a2) (mw_zi (Or.inl ⟨rfl, Or.inr ⟨by omega, by omega⟩⟩) _ _))
  rw [zi_at]
  constructor
  · intro q
    have hnm := told_nm hn hO q
    obtain ⟨n1, n2, n3⟩ := nm_te hnm
    obtain ⟨g2, w2, b1, b2⟩ := m_wordSize (X9 (nI (told tn tb P (sk tn tb (s + 5)))))
    rw [sk_sk hle] at w2 b1
    rw [if_pos q, if_neg (fun e => by rw [nI_m1, nN_eqm (by omega)] at e; exact e), w2, Option.bind_some]
    dsimp only
    rw [zi_else _ _ (show ¬ (42 = 42 ∧ 4 = 9) by omega), a1.2.1, nN_add]
    have mb : mw wP4 (zi g1 42 9 (nI (told tn tb P (sk tn tb (s + 5))))) (zi g2 42 4 (nI (sk tn tb (s + 5) + rn tn tb isLt (sk tn tb (s + 5))))) := mw_tr b2 (mw_zi ⟨rfl, rfl⟩ _ _)
    refine ⟨_, sk tn tb (s + 5) + rn tn tb isLt (sk tn tb (s + 5)), rfl, rdX_mv b1 n3, by rw [n2], ?_, mDf_mw (fun c k q => by unfold wP4 at q; omega) mb ?_, mw_tr (m9 _) (wP4_Rd mb)⟩
    · rw [mb.1 42 5 (by unfold wP4; omega), zi_else _ _ (by omega)]; exact h51
    · obtain ⟨d0, d1, d2, d3, d4, d5, d6, d7, d8, d9⟩ := hD1
      refine ⟨by rw [zi_else _ _ (by omega)]; exact d0, by rw [zi_else _ _ (by omega)]; exact d1, by rw [zi_else _ _ (by omega)]; exact d2, ?_, d4, fun f hf => by rw [zi_cell _ _ (by omega)]; exact d5 f hf, fun f hf => by rw [zi_cell _ _ (by omega)]; exact d6 f hf, fun f hf => by rw [zi_cell _ _ (by omega)]; exact d7 f hf, fun e he f hf => by rw [zi_cell _ _ (by omega)]; exact d8 e he f hf, fun k hk e he => by rw [zi_cell _ _ (by omega)]; exact d9 k hk e he⟩
      rw [zi_at]
      show _ = gI (told tn tb P (sk tn tb (s + 5)))
      unfold gI
      rw [if_neg (by omega)]
  · intro q
    rw [if_neg q, if_pos rfl, m_wrong (X9 _) (by rw [zi_else _ _ (by omega)]; exact h51), Option.bind_some]
    exact ⟨_, rfl, zi_at _ _ _ _, mw_tr (m9 _) (mw_zi (Or.inl ⟨rfl, Or.inr ⟨by omega, by omega⟩⟩) _ _)⟩
end Gr
