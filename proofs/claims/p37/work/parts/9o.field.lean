
/-! ===== read: a field's line, the class ===== -/
section Fl
variable {g h k : zS} {tn : Nat} {tb : Nat → Nat} {s p : Nat} {P : zPl} {N : Nat} {r : Nat → Nat}
/-- the plan with one more field -/
def wF (P : zPl) (q w sc : Nat) (l : List Nat) : zPl := (pn P + 1, upA (pq P) (pn P) q, upA (pw P) (pn P) w, upA (ps P) (pn P) sc, pg P, pm P, pE P, fun f => if f = pn P then l else pl P f)
/-- a field's line: the token behind, values, weight, scaled; or the token that is wrong -/
noncomputable def fdW (tn : Nat) (tb : Nat → Nat) (t4 q sc : Nat) : (Nat × Nat × Nat × Nat) ⊕ Nat := if wd tn tb t4 = wdL 3 then @ite _ (dgO tn tb (sk tn tb (te tn tb t4)) 1 9) (Classical.propDecidable _) (.inl (sk tn tb (te tn tb (sk tn tb (te tn tb t4))), q, tb (sk tn tb (te tn tb t4)) - 48, sc)) (.inr (sk tn tb (te tn tb t4))) else .inl (t4, q, 1, sc)
noncomputable def fdV (tn : Nat) (tb : Nat → Nat) (t3 sc : Nat) : (Nat × Nat × Nat × Nat) ⊕ Nat := @ite _ (dgO tn tb t3 2 5) (Classical.propDecidable _) (fdW tn tb (sk tn tb (te tn tb t3)) (tb t3 - 48) sc) (.inr t3)
noncomputable def fdR (P : zPl) (tn : Nat) (tb : Nat → Nat) (t : Nat) : (Nat × Nat × Nat × Nat) ⊕ Nat := if isNm tn tb t = true ∧ ¬ told tn tb P t < pn P then (if wd tn tb (sk tn tb (te tn tb t)) = wdL 1 then fdV tn tb (sk tn tb (te tn tb (sk tn tb (te tn tb t)))) 0 else if wd tn tb (sk tn tb (te tn tb t)) = wdL 2 then fdV tn tb (sk tn tb (te tn tb (sk tn tb (te tn tb t)))) 1 else .inr (sk tn tb (te tn tb t))) else .inr t
theorem fits_b {x : Nat} (h : x < 128) : fits .byte (.int (nI x)) = true := by
  have : ∀ x, x < 128 → fits .byte (.int (nI x)) = true := by decide +kernel
  exact this x h
theorem bt15_mw {W : Nat → Nat → Prop} (q : ∀ c k, W c k → c ≠ 15) (a : mw W g h) (b : bt15 g) : bt15 h := fun k hk => by
  rw [a.1 15 k (fun w => q _ _ w rfl)]
  exact b k hk
theorem wCr_15 : ∀ c k, wCr c k → c ≠ 15 := fun c k q => by unfold wCr at q; omega
theorem e_keepName (hA : tkA tn tb s g) (hnm : isNm tn tb s = true) {n : Nat} (hn : n < 5) : ∃ h, nX7_keepName (nI n) g = some h ∧ h.1 16 n = nI (rn tn tb isLt s) ∧ (∀ i, i < rn tn tb isLt s → h.1 15 (n * 6 + i) = nI (tb (s + i))) ∧ (∀ i, i < n * 6 → h.1 15 i = g.1 15 i) ∧ (∀ i, i ≠ n → h.1 16 i = g.1 16 i) ∧ mw (fun c _ => c = 15 ∨ c = 16) g h ∧ (bt15 g → bt15 h) := by
  obtain ⟨hT, hs, h2, h3⟩ := id hA
  obtain ⟨n1, n2, n3⟩ := nm_te hnm
  have hq := (isNm_iff.mp hnm).1
  have t2 := hT.2.1
  have hsb : g.1 19 3 - g.1 19 2 = nI (rn tn tb isLt s) := by rw [h2, h3, n2, nI_sub (by omega)]; congr 1; omega
  unfold nX7_keepName
  rw [zchk_t (zin_nI (by omega) (by omega)), nI_cl (by omega), hsb]
  refine wh_up (fun i (z : Int32 × zS) => z.1 = nI i ∧ z.2.1 16 n = nI (rn tn tb isLt s) ∧ (∀ j, j < i → z.2.1 15 (n * 6 + j) = nI (tb (s + j))) ∧ (∀ j, j < n * 6 → z.2.1 15 j = g.1 15 j) ∧ (∀ j, j ≠ n → z.2.1 16 j = g.1 16 j) ∧ mw (fun c _ => c = 15 ∨ c = 16) g z.2 ∧ (bt15 g → bt15 z.2)) (fun h : zS => h.1 16 n = nI (rn tn tb isLt s) ∧ (∀ i, i < rn tn tb isLt s → h.1 15 (n * 6 + i) = nI (tb (s + i))) ∧ (∀ i, i < n * 6 → h.1 15 i = g.1 15 i) ∧ (∀ i, i ≠ n → h.1 16 i = g.1 16 i) ∧ mw (fun c _ => c = 15 ∨ c = 16) g h ∧ (bt15 g → bt15 h)) (rn tn tb isLt s) ?_ ?_ ⟨rfl, zi_at _ _ _ _, fun j hj => by omega, fun j _ => by rw [zi_cell _ _ (by omega)], fun j hj => by rw [zi_else _ _ (by omega)], mw_zi (W := fun c _ => c = 15 ∨ c = 16) (Or.inr rfl) _ _, fun b k hk => by rw [zi_cell _ _ (by omega)]; exact b k hk⟩
  · intro i z hi ⟨z1, z2, z3, z4, z5, z6, z7⟩
    have zT := cTp_mw (fun c k q => by omega) z6 hT
    have hl := rn_in hi
    have h128 : tb (s + i) < 128 := by
      unfold isLt at hl
      rw [Bool.and_eq_true, decide_eq_true_eq, decide_eq_true_eq] at hl
      omega
    unfold wX7_keepName_22
    rw [z1, if_neg (fun e => by rw [nN_le (by omega) (by omega)] at e; omega), if_neg (show ¬ (6 : Int32) ≤ nI i from fun e => by have := (nN_le (a := 6) (by omega) (by omega)).mp e; omega), z6.1 19 2 (by omega), h2, nN_add, e_at zT _ (by omega), Option.bind_some, chr_in (by omega), b8_nar h128, show nI n * (6 : Int32) = nI (n * 6) from nI_mul n 6, nN_add, zchk_t (zin_nI (by omega) (by omega)), nI_cl (by omega), nI_s]
    refine ⟨_, rfl, rfl, by rw [zi_else _ _ (by omega)]; exact z2, fun j hj => ?_, fun j hj => by rw [zi_else _ _ (by omega)]; exact z4 j hj, fun j hj => by rw [zi_cell _ _ (by omega)]; exact z5 j hj, mw_tr z6 (mw_zi (W := fun c _ => c = 15 ∨ c = 16) (Or.inl rfl) _ _), fun b k hk => ?_⟩
    · by_cases q : j = i
      · rw [q, zi_at]
      · rw [zi_else _ _ (by omega)]; exact z3 j (by omega)
    · by_cases q : k = n * 6 + i
      · rw [q, zi_at]; exact fits_b h128
      · rw [zi_else _ _ (by omega)]; exact z7 b k hk
  · intro z ⟨z1, z2, z3, z4, z5, z6, z7⟩
    unfold wX7_keepName_22
    rw [z1, if_pos (Int32.le_refl _)]
    exact ⟨_, rfl, z2, z3, z4, z5, z6, z7⟩
end Fl
