
/-! ===== read: a row's line ===== -/
section Rw
variable {g h k : zS} {tn : Nat} {tb : Nat → Nat} {s p : Nat} {P : zPl} {N : Nat} {r : Nat → Nat}
/-- a row's answers from the field f on: the token behind, the code; or the token that is wrong -/
noncomputable def rowR (P : zPl) (tn : Nat) (tb : Nat → Nat) : Nat → Nat → Nat → Nat → (Nat × Nat) ⊕ Nat
  | 0, _, t, c => .inl (t, c)
  | k + 1, f, t, c => if chr tn tb t = 63 then rowR P tn tb k (f + 1) (sk tn tb (te tn tb t)) c else @ite _ (dgO tn tb t 0 (pq P f - 1)) (Classical.propDecidable _) (rowR P tn tb k (f + 1) (sk tn tb (te tn tb t)) (wa c f (tb t - 48 + 1))) (.inr t)
def rOKf (P : zPl) (f c : Nat) : Prop := c < 32768 ∧ (∀ e, e < f → rv c e ≤ pq P e) ∧ ∀ e, f ≤ e → e < 5 → rv c e = 0
theorem rOKf_0 : rOKf P 0 0 := ⟨by omega, fun e he => by omega, fun e _ he => by
  have hz : ∀ f, f < 5 → rv 0 f = 0 := by decide
  exact hz e he⟩
theorem rOKf_s (hO : pOK P) {f c v : Nat} (hf : f < pn P) (h : rOKf P f c) (hv : v ≤ pq P f) : rOKf P (f + 1) (wa c f v) := by
  have h5 := hO.1
  have hq := (hO.2.1 f hf).2.1
  refine ⟨wa_lt h.1 (by omega) (by omega), fun e he => ?_, fun e h1 h2 => ?_⟩
  · rw [rv_wa (by omega) (by omega) (by omega)]
    by_cases q : e = f
    · rw [if_pos q, q]; exact hv
    · rw [if_neg q]; exact h.2.1 e (by omega)
  · rw [rv_wa (by omega) (by omega) (by omega), if_neg (by omega)]
    exact h.2.2 e (by omega) h2
theorem rOKf_n (hO : pOK P) {f c : Nat} (hf : f < pn P) (h : rOKf P f c) : rOKf P (f + 1) c := by
  have h5 := hO.1
  refine ⟨h.1, fun e he => ?_, fun e h1 h2 => h.2.2 e (by omega) h2⟩
  by_cases q : e = f
  · rw [q, h.2.2 f (Nat.le_refl _) (by omega)]; omega
  · exact h.2.1 e (by omega)
/-- what the class's reader changes -/
def wCr (c k : Nat) : Prop := (11 ≤ c ∧ c ≤ 18 ∧ c ≠ 15) ∨ (c = 19 ∧ (k = 2 ∨ k = 3))
theorem wT2_Cr (a : mw wT2 g h) : mw wCr g h := mw_le (fun c k q => by unfold wT2 at q; unfold wCr; omega) a
theorem te_63 (hb : ∀ k, k < tn → tb k < 256) {t : Nat} (h : chr tn tb t = 63) : t < tn ∧ te tn tb t = t + 1 := by
  have ht : t < tn := Decidable.byContradiction fun q => by
    rw [chr_out q] at h
    exact absurd h (by decide)
  have h256 := hb t ht
  have e : tb t = 63 := by
    rw [chr_in ht] at h
    exact (nN_eq (b := 63) (by omega) (by omega)).mp h
  refine ⟨ht, ?_⟩
  unfold te
  rw [if_pos ht, e, if_neg (by decide), if_neg (by decide)]
theorem e_row8 (hO : pOK P) (hN : N < 40) : ∀ k f t c (g : zS), f + k = pn P → rOKf P f c → tkA tn tb t g → cDf P N r g → (∀ t' c', rowR P tn tb k f t c = .inl (t', c') → ∃ h, wh (wX7_readRow_8 ) (nI c, nI f, g) = some (1, h) ∧ tkA tn tb t' h ∧ cDf P (N + 1) (upA r N c') h ∧ mw wCr g h) ∧ (∀ t', rowR P tn tb k f t c = .inr t' → ∃ h, wh (wX7_readRow_8 ) (nI c, nI f, g) = some (0, h) ∧ tkA tn tb t' h ∧ mw wCr g h) := by
  have h5 := hO.1
  intro k
  induction k with
  | zero =>
    intro f t c g hf hc hA hD
    have ef : f = pn P := by omega
    subst ef
    refine ⟨fun t' c' e => ?_, fun t' e => by cases e⟩
    have e1 : t = t' := congrArg Prod.fst (Sum.inl.inj e)
    have e2 : c = c' := congrArg Prod.snd (Sum.inl.inj e)
    subst e1 e2
    obtain ⟨d0, d1, d2, d3, d4, d5, d6, d7, d8, d9, d10⟩ := hD
    have ma : mw wCr g (zi g 18 N (nI c)) := mw_zi (Or.inl ⟨by omega, by omega⟩) _ _
    have mb : mw wCr (zi g 18 N (nI c)) (zi (zi g 18 N (nI c)) 11 9 (nI (N + 1))) := mw_zi (Or.inl ⟨by omega, by omega⟩) _ _
    have m1 := mw_tr ma mb
    refine ⟨zi (zi g 18 N (nI c)) 11 9 (nI (N + 1)), wh_out ?_, ⟨cTp_mw (fun c k q => by unfold wCr at q; omega) m1 hA.1, hA.2.1, by rw [zi_else _ _ (by omega), zi_else _ _ (by omega)]; exact hA.2.2.1, by rw [zi_else _ _ (by omega), zi_else _ _ (by omega)]; exact hA.2.2.2⟩, ?_, m1⟩
    · unfold wX7_readRow_8
      dsimp only
      rw [d0, if_pos (Int32.le_refl _), d8, zchk_t (zin_nI (by omega) (by omega)), nI_cl (by omega), zi_else (c := 18) (k := N) (d := 11) (i := 9) _ _ (by omega), d8, nI_s]
      rfl
    · refine ⟨by rw [zi_else _ _ (by omega), zi_else _ _ (by omega)]; exact d0, fun f hf => by rw [zi_cell _ _ (by omega), zi_cell _ _ (by omega)]; exact d1 f hf, fun f hf => by rw [zi_cell _ _ (by omega), zi_cell _ _ (by omega)]; exact d2 f hf, fun f hf => by rw [zi_cell _ _ (by omega), zi_cell _ _ (by omega)]; exact d3 f hf, by rw [zi_else _ _ (by omega), zi_else _ _ (by omega)]; exact d4, by rw [zi_else _ _ (by omega), zi_else _ _ (by omega)]; exact d5, fun e he f hf => by rw [zi_cell _ _ (by omega), zi_cell _ _ (by omega)]; exact d6 e he f hf, fun f hf => by rw [zi_cell _ _ (show 16 ≠ 11 by omega), zi_cell _ _ (show 16 ≠ 18 by omega), zi_cell _ _ (show 15 ≠ 11 by omega), zi_cell _ _ (show 15 ≠ 18 by omega)]; exact d7 f hf, zi_at _ _ _ _, by omega, fun j hj => ?_⟩
      rw [zi_cell _ _ (by omega)]
      show (zi g 18 N (nI c)).1 18 j = nI (if j = N then c else r j) ∧ rOK P (if j = N then c else r j)
      by_cases q : j = N
      · rw [if_pos q, q, zi_at]
        exact ⟨rfl, hc.1, hc.2.1, hc.2.2⟩
      · rw [if_neg q, zi_else _ _ (by omega)]
        exact d10 j (by omega)
  | succ k ih =>
    intro f t c g hf hc hA hD
    have hff : f < pn P := by omega
    have hq := hO.2.1 f hff
    obtain ⟨tk1, tk2⟩ := e_takes hA (63 : Int32)
    have hb : ∀ j, j < tn → tb j < 256 := fun j hj => chr_lt hA.1 hj
    unfold rowR
    by_cases q : chr tn tb t = 63
    · rw [if_pos q]
      obtain ⟨g1, w, b1, b2⟩ := tk1 q
      have hst : wX7_readRow_8 (nI c, nI f, g) = some (.inl (nI c, nI (f + 1), g1)) := by
        unfold wX7_readRow_8
        dsimp only
        rw [hD.1, if_neg (fun e => by rw [nN_le (by omega) (by omega)] at e; omega), w, Option.bind_some, if_neg n01, nI_s]
      rw [wh_in hst]
      obtain ⟨i1, i2⟩ := ih (f + 1) (sk tn tb (te tn tb t)) c g1 (by omega) (rOKf_n hO hff hc) b1 (cDf_mw (fun c k q => by unfold wT2 at q; omega) b2 hD)
      refine ⟨fun t' c' e => ?_, fun t' e => ?_⟩
      · obtain ⟨h, w2, x1, x2, x3⟩ := i1 t' c' e
        exact ⟨h, w2, x1, x2, mw_tr (wT2_Cr b2) x3⟩
      · obtain ⟨h, w2, x1, x3⟩ := i2 t' e
        exact ⟨h, w2, x1, mw_tr (wT2_Cr b2) x3⟩
    · rw [if_neg q]
      obtain ⟨n1, n2⟩ := e_takeNumber (lo := 0) (hi := pq P f - 1) hA (by omega) (by omega)
      have e12 : g.1 12 f - (1 : Int32) = nI (pq P f - 1) := by rw [hD.2.1 f hff]; exact nI_sub (b := 1) (by omega)
      by_cases d : dgO tn tb t 0 (pq P f - 1)
      · rw [if_pos d]
        obtain ⟨g1, w, b1, b2⟩ := n1 d
        have hst : wX7_readRow_8 (nI c, nI f, g) = some (.inl (nI (wa c f (tb t - 48 + 1)), nI (f + 1), g1)) := by
          have h256 := hb t d.2.1
          unfold wX7_readRow_8
          dsimp only
          rw [hD.1, if_neg (fun e => by rw [nN_le (by omega) (by omega)] at e; omega), tk2 q, Option.bind_some, if_pos rfl, zchk_t (zin_nI (by omega) (by omega)), nI_cl (by omega), e12, show nX7_takeNumber (0 : Int32) (nI (pq P f - 1)) g = some (nI (tb t - 48), g1) from w, Option.bind_some, if_neg (fun e => by rw [nI_m1, nN_eqm (by omega)] at e; exact e), show nI (tb t - 48) = nJ (tb t - 48 + 1) from (nJ_s _).symm, e_withAnswer (by omega), Option.bind_some, nI_s]
        rw [wh_in hst]
        have hdv : tb t - 48 + 1 ≤ pq P f := by have := d.2.2.2; omega
        obtain ⟨i1, i2⟩ := ih (f + 1) (sk tn tb (te tn tb t)) (wa c f (tb t - 48 + 1)) g1 (by omega) (rOKf_s hO hff hc hdv) b1 (cDf_mw (fun c k q => by unfold wT2 at q; omega) b2 hD)
        refine ⟨fun t' c' e => ?_, fun t' e => ?_⟩
        · obtain ⟨h, w2, x1, x2, x3⟩ := i1 t' c' e
          exact ⟨h, w2, x1, x2, mw_tr (wT2_Cr b2) x3⟩
        · obtain ⟨h, w2, x1, x3⟩ := i2 t' e
          exact ⟨h, w2, x1, mw_tr (wT2_Cr b2) x3⟩
      · rw [if_neg d]
        refine ⟨fun t' c' e => (by cases e), fun t' e => ?_⟩
        have e1 : t = t' := Sum.inr.inj e
        subst e1
        refine ⟨g, wh_out ?_, hA, mw_rfl _⟩
        unfold wX7_readRow_8
        dsimp only
        rw [hD.1, if_neg (fun e => by rw [nN_le (by omega) (by omega)] at e; omega), tk2 q, Option.bind_some, if_pos rfl, zchk_t (zin_nI (by omega) (by omega)), nI_cl (by omega), e12, show nX7_takeNumber (0 : Int32) (nI (pq P f - 1)) g = some (-1, g) from n2 d, Option.bind_some, if_pos rfl]
        rfl
end Rw
