
/-! ===== read: a field's line, the class, on ===== -/
section Fm
variable {g h k : zS} {tn : Nat} {tb : Nat → Nat} {s p t : Nat} {P : zPl} {N : Nat} {r : Nat → Nat}
/-- the draft and the new field's name -/
def fdC (P : zPl) (r : Nat → Nat) (tn : Nat) (tb : Nat → Nat) (t : Nat) (g : zS) : Prop := cDf P 0 r g ∧ g.1 16 (pn P) = nI (rn tn tb isLt t) ∧ ∀ i, i < rn tn tb isLt t → g.1 15 (pn P * 6 + i) = nI (tb (t + i))
theorem fdC_mw {W : Nat → Nat → Prop} (q : ∀ c k, W c k → c < 11 ∨ 18 < c) (a : mw W g h) (d : fdC P r tn tb t g) : fdC P r tn tb t h := ⟨cDf_mw q a d.1, by rw [a.1 16 _ (fun w => by have := q _ _ w; omega)]; exact d.2.1, fun i hi => by rw [a.1 15 _ (fun w => by have := q _ _ w; omega)]; exact d.2.2 i hi⟩
theorem fdC_14 {x : Int32} (d : fdC P r tn tb t g) : fdC P r tn tb t (zi g 14 (pn P) x) := by
  obtain ⟨⟨d0, d1, d2, d3, d4, d5, d6, d7, d8, d9, d10⟩, e1, e2⟩ := d
  refine ⟨⟨by rw [zi_else _ _ (by omega)]; exact d0, fun f hf => by rw [zi_cell _ _ (by omega)]; exact d1 f hf, fun f hf => by rw [zi_cell _ _ (by omega)]; exact d2 f hf, fun f hf => by rw [zi_else _ _ (by omega)]; exact d3 f hf, by rw [zi_else _ _ (by omega)]; exact d4, by rw [zi_else _ _ (by omega)]; exact d5, fun e he f hf => by rw [zi_cell _ _ (by omega)]; exact d6 e he f hf, fun f hf => by rw [zi_cell _ _ (show 16 ≠ 14 by omega), zi_cell _ _ (show 15 ≠ 14 by omega)]; exact d7 f hf, by rw [zi_else _ _ (by omega)]; exact d8, d9, fun j hj => by omega⟩, by rw [zi_cell _ _ (by omega)]; exact e1, fun i hi => by rw [zi_cell _ _ (by omega)]; exact e2 i hi⟩
theorem fd_122 (hp : pn P < 5) (hm0 : pm P = 0) (hA : tkA tn tb s g) (hC : fdC P r tn tb t g) {q w sc : Nat} (hsc : g.1 14 (pn P) = nI sc) (hw : w ≤ 9) : ∃ h, jX7_readField_122 (nI (pn P)) (nI q) (nI w) g = some (1, h) ∧ tkA tn tb s h ∧ cDf (wF P q w sc (wd tn tb t)) 0 r h ∧ mw wCr g h := by
  obtain ⟨⟨d0, d1, d2, d3, d4, d5, d6, d7, d8, d9, d10⟩, e1, e2⟩ := hC
  have hwl := wd_len (tn := tn) (tb := tb) t
  obtain ⟨z, ez⟩ : ∃ z, z = zi (zi (zi g 12 (pn P) (nI q)) 13 (pn P) (nI w)) 11 0 (nI (pn P + 1)) := ⟨_, rfl⟩
  have z1 : mw (fun c _ => c = 11 ∨ c = 12 ∨ c = 13) g z := by
    rw [ez]
    exact mw_tr (mw_zi (W := fun c _ => c = 11 ∨ c = 12 ∨ c = 13) (Or.inr (Or.inl rfl)) _ _) (mw_tr (mw_zi (W := fun c _ => c = 11 ∨ c = 12 ∨ c = 13) (Or.inr (Or.inr rfl)) _ _) (mw_zi (W := fun c _ => c = 11 ∨ c = 12 ∨ c = 13) (Or.inl rfl) _ _))
  have e11 : ∀ k, k ≠ 0 → z.1 11 k = g.1 11 k := fun k hk => by rw [ez, zi_else _ _ (by omega), zi_else _ _ (by omega), zi_else _ _ (by omega)]
  refine ⟨z, ?_, tkA_mw (fun c k q => by omega) z1 hA, ?_, mw_le (fun c k q => by unfold wCr; omega) z1⟩
  · unfold jX7_readField_122
    rw [zchk_t (zin_nI (by omega) (by omega)), zchk_t (zin_nI (by omega) (by omega)), if_neg (fun e => by rw [nI_m1, nN_eqm (by omega)] at e; exact e), nI_cl (by omega), zi_else (c := 13) (d := 11) (i := 0) _ _ (by omega), zi_else (c := 12) (d := 11) (i := 0) _ _ (by omega), d0, nI_s, ez]
  · refine ⟨by rw [ez]; exact zi_at _ _ _ _, fun f hf => ?_, fun f hf => ?_, fun f hf => ?_, by rw [e11 6 (by omega)]; exact d4, by rw [e11 7 (by omega)]; exact d5, fun e he f hf => ?_, fun f hf => ?_, by rw [e11 9 (by omega)]; exact d8, d9, fun j hj => by omega⟩
    · have hf' : f < pn P + 1 := hf
      show _ = nI (if f = pn P then q else pq P f)
      rw [ez, zi_cell _ _ (by omega), zi_cell _ _ (by omega)]
      by_cases c : f = pn P
      · rw [if_pos c, c, zi_at]
      · rw [if_neg c, zi_else _ _ (by omega)]; exact d1 f (by omega)
    · have hf' : f < pn P + 1 := hf
      show _ = nI (if f = pn P then w else pw P f)
      rw [ez, zi_cell _ _ (by omega)]
      by_cases c : f = pn P
      · rw [if_pos c, c, zi_at]
      · rw [if_neg c, zi_else _ _ (by omega), zi_cell _ _ (by omega)]; exact d2 f (by omega)
    · have hf' : f < pn P + 1 := hf
      show _ = nI (if f = pn P then sc else ps P f)
      rw [z1.1 14 f (by omega)]
      by_cases c : f = pn P
      · rw [if_pos c, c]; exact hsc
      · rw [if_neg c]; exact d3 f (by omega)
    · have he' : e < pm P := he
      omega
    · have hf' : f < pn P + 1 := hf
      show z.1 16 f = nI (if f = pn P then wd tn tb t else pl P f).length ∧ ∀ k, k < (if f = pn P then wd tn tb t else pl P f).length → z.1 15 (f * 6 + k) = nI ((if f = pn P then wd tn tb t else pl P f).getD k 0)
      by_cases c : f = pn P
      · rw [if_pos c, hwl, c, z1.1 16 _ (by omega)]
        exact ⟨e1, fun i hi => by rw [z1.1 15 _ (by omega), wd_get hi]; exact e2 i hi⟩
      · rw [if_neg c, z1.1 16 _ (by omega)]
        exact ⟨(d7 f (by omega)).1, fun i hi => by rw [z1.1 15 _ (by omega)]; exact (d7 f (by omega)).2 i hi⟩
end Fm
