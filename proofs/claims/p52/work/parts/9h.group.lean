
/-! ===== read: the group's line; spans ===== -/
section Gr
variable {g h k : zS} {tn : Nat} {tb : Nat → Nat} {s p : Nat} {P : zPl} {N : Nat} {r : Nat → Nat}
/-- the plan with its group -/
def wG (P : zPl) (x : Nat) : zPl := (P.1, P.2.1, P.2.2.1, P.2.2.2.1, x, P.2.2.2.2.2)
theorem wG_ok (hO : pOK P) {x : Nat} (hx : x < pn P) : pOK (wG P x) := ⟨hO.1, hO.2.1, hO.2.2.1, hO.2.2.2.1, hO.2.2.2.2.1, Or.inl hx, hO.2.2.2.2.2.2⟩
theorem word_te {k L : Nat} (hk : (wdL k).length = L) (hL : 0 < L) (hs : wd tn tb s = wdL k) : s < tn ∧ te tn tb s = s + L ∧ s + L ≤ tn := by
  have hl := (wd_eq.mp hs).1
  have hrl := rn_le (tn := tn) (tb := tb) isLt s
  have ht : s < tn := by omega
  refine ⟨ht, ?_, by omega⟩
  unfold te
  rw [if_pos ht, if_pos ((rn_pos (tn := tn) (tb := tb) ht).mp (by omega))]
  omega
theorem nm_te (h : isNm tn tb s = true) : s < tn ∧ te tn tb s = s + rn tn tb isLt s ∧ s + rn tn tb isLt s ≤ tn := by
  have hq := (isNm_iff.mp h).1
  have hrl := rn_le (tn := tn) (tb := tb) isLt s
  have ht : s < tn := by omega
  refine ⟨ht, ?_, by omega⟩
  unfold te
  rw [if_pos ht, if_pos ((rn_pos (tn := tn) (tb := tb) ht).mp (by omega))]
theorem e_readGroup (hO : pOK P) (hn : nmOK P) (hA : tkA tn tb s g) (hD : cDf P N r g) : (told tn tb P (sk tn tb (te tn tb s)) < pn P → ∃ h, nX7_readGroup g = some (1, h) ∧ tkA tn tb (sk tn tb (te tn tb (sk tn tb (te tn tb s)))) h ∧ cDf (wG P (told tn tb P (sk tn tb (te tn tb s)))) N r h ∧ mw wCr g h) ∧ (¬ told tn tb P (sk tn tb (te tn tb s)) < pn P → ∃ h, nX7_readGroup g = some (0, h) ∧ tkA tn tb (sk tn tb (te tn tb s)) h ∧ mw wCr g h) := by
  have h5 := hO.1
  obtain ⟨g1, w, b1, b2⟩ := e_nextA hA
  have hD1 := cDf_mw (fun c k q => by unfold wT2 at q; omega) b2 hD
  unfold nX7_readGroup
  rw [w, Option.bind_some, e_toldField hO hn b1 hD1, Option.bind_some]
  constructor
  · intro q
    have m1 : mw wCr g1 (zi g1 11 6 (nI (told tn tb P (sk tn tb (te tn tb s))))) := mw_zi (Or.inl ⟨by omega, by omega⟩) _ _
    have zA : tkA tn tb (sk tn tb (te tn tb s)) (zi g1 11 6 (nI (told tn tb P (sk tn tb (te tn tb s))))) := ⟨cTp_mw (fun c k q => by unfold wCr at q; omega) m1 b1.1, b1.2.1, by rw [zi_else _ _ (by omega)]; exact b1.2.2.1, by rw [zi_else _ _ (by omega)]; exact b1.2.2.2⟩
    obtain ⟨g2, w2, c1, c2⟩ := e_nextA zA
    rw [if_pos q, if_neg (fun e => by rw [nI_m1, nN_eqm (by omega)] at e; exact e), w2, Option.bind_some]
    refine ⟨g2, rfl, c1, cDf_mw (fun c k q => by unfold wT2 at q; omega) c2 ?_, mw_tr (wT2_Cr b2) (mw_tr m1 (wT2_Cr c2))⟩
    obtain ⟨d0, d1, d2, d3, d4, d5, d6, d7, d8, d9, d10⟩ := hD1
    refine ⟨by rw [zi_else _ _ (by omega)]; exact d0, fun f hf => by rw [zi_cell _ _ (by omega)]; exact d1 f hf, fun f hf => by rw [zi_cell _ _ (by omega)]; exact d2 f hf, fun f hf => by rw [zi_cell _ _ (by omega)]; exact d3 f hf, ?_, by rw [zi_else _ _ (by omega)]; exact d5, fun e he f hf => by rw [zi_cell _ _ (by omega)]; exact d6 e he f hf, fun f hf => by rw [zi_cell _ _ (show 16 ≠ 11 by omega), zi_cell _ _ (show 15 ≠ 11 by omega)]; exact d7 f hf, by rw [zi_else _ _ (by omega)]; exact d8, d9, fun j hj => by rw [zi_cell _ _ (by omega)]; exact d10 j hj⟩
    rw [zi_at]
    show _ = gI (told tn tb P (sk tn tb (te tn tb s)))
    unfold gI
    rw [if_neg (by omega)]
  · intro q
    rw [if_neg q, if_pos rfl]
    exact ⟨g1, rfl, b1, wT2_Cr b2⟩
end Gr
