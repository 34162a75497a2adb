
/-! ===== read: a field's line, the class, the whole of it ===== -/
section Fo
variable {g h k : zS} {tn : Nat} {tb : Nat → Nat} {s p t : Nat} {P : zPl} {N : Nat} {r : Nat → Nat}
/-- what the class's reader changes in a field's line -/
def wCs (c k : Nat) : Prop := wCr c k ∨ c = 15
theorem wCr_Cs (a : mw wCr g h) : mw wCs g h ∧ (bt15 g → bt15 h) := ⟨mw_le (fun c k q => Or.inl q) a, bt15_mw wCr_15 a⟩
theorem Cs_tr (a : mw wCs g h ∧ (bt15 g → bt15 h)) (b : mw wCs h k ∧ (bt15 h → bt15 k)) : mw wCs g k ∧ (bt15 g → bt15 k) := ⟨mw_tr a.1 b.1, fun q => b.2 (a.2 q)⟩
theorem e_readField (hO : pOK P) (hn : nmOK P) (hp : pn P < 5) (hm0 : pm P = 0) (hA : tkA tn tb s g) (hD : cDf P 0 r g) : (∀ t' q w sc, fdR P tn tb (sk tn tb (te tn tb s)) = .inl (t', q, w, sc) → ∃ h, nX7_readField g = some (1, h) ∧ tkA tn tb t' h ∧ cDf (wF P q w sc (wd tn tb (sk tn tb (te tn tb s)))) 0 r h ∧ sc ≤ 1 ∧ 2 ≤ q ∧ q ≤ 5 ∧ 1 ≤ w ∧ w ≤ 9 ∧ mw wCs g h ∧ (bt15 g → bt15 h)) ∧ (∀ t', fdR P tn tb (sk tn tb (te tn tb s)) = .inr t' → ∃ h, nX7_readField g = some (0, h) ∧ tkA tn tb t' h ∧ mw wCs g h ∧ (bt15 g → bt15 h)) := by
  obtain ⟨g1, w1, a1, a2⟩ := e_nextA hA
  have D1 := cDf_mw (fun c k q => by unfold wT2 at q; omega) a2 hD
  obtain ⟨t, et⟩ : ∃ t, t = sk tn tb (te tn tb s) := ⟨_, rfl⟩
  rw [← et] at a1 ⊢
  unfold nX7_readField
  rw [w1, Option.bind_some, e_isName a1, Option.bind_some]
  unfold fdR
  by_cases q1 : isNm tn tb t = true
  · rw [if_pos q1, if_neg n01, e_toldField hO hn a1 D1, Option.bind_some]
    by_cases q2 : told tn tb P t < pn P
    · rw [if_neg (fun e => e.2 q2), if_pos q2, if_neg (fun e => by rw [nI_m1, nN_eqm (by omega)] at e; exact e)]
      refine ⟨fun t' q w sc ee => (by cases ee), fun t' ee => ?_⟩
      cases ee
      exact ⟨g1, rfl, a1, wCr_Cs (wT2_Cr a2)⟩
    · rw [if_pos ⟨q1, q2⟩, if_neg q2, if_pos rfl, hD.1]
      obtain ⟨g2, w2, k1, k2, k3, k4, k5, k6⟩ := e_keepName a1 q1 hp
      have A2 : tkA tn tb t g2 := tkA_mw (fun c k q => by omega) k5 a1
      have C2 : fdC P r tn tb t g2 := by
        obtain ⟨d0, d1, d2, d3, d4, d5, d6, d7, d8, d9, d10⟩ := D1
        have e : ∀ c i, c ≠ 15 → c ≠ 16 → g2.1 c i = g1.1 c i := fun c i h1 h2 => k5.1 c i (by omega)
        refine ⟨⟨by rw [e _ _ (by omega) (by omega)]; exact d0, fun f hf => by rw [e _ _ (by omega) (by omega)]; exact d1 f hf, fun f hf => by rw [e _ _ (by omega) (by omega)]; exact d2 f hf, fun f hf => by rw [e _ _ (by omega) (by omega)]; exact d3 f hf, by rw [e _ _ (by omega) (by omega)]; exact d4, by rw [e _ _ (by omega) (by omega)]; exact d5, fun x hx f hf => by omega, fun f hf => ?_, by rw [e _ _ (by omega) (by omega)]; exact d8, d9, fun j hj => by omega⟩, k1, k2⟩
        have l6 := (hO.2.2.1 f hf).1
        exact ⟨by rw [k4 f (by omega)]; exact (d7 f hf).1, fun i hi => by rw [k3 _ (by omega)]; exact (d7 f hf).2 i hi⟩
      have fr2 : mw wCs g g2 ∧ (bt15 g → bt15 g2) := Cs_tr (wCr_Cs (wT2_Cr a2)) ⟨mw_le (fun c k q => by unfold wCs wCr; omega) k5, k6⟩
      obtain ⟨g3, w3, b1, b2⟩ := e_nextA A2
      have C3 := fdC_mw (fun c k q => by unfold wT2 at q; omega) b2 C2
      have fr3 : mw wCs g g3 ∧ (bt15 g → bt15 g3) := Cs_tr fr2 (wCr_Cs (wT2_Cr b2))
      rw [w2, Option.bind_some, w3, Option.bind_some, e_isWord_901 b1, Option.bind_some]
      by_cases q3 : wd tn tb (sk tn tb (te tn tb t)) = wdL 1
      · have q4 : wd tn tb (sk tn tb (te tn tb t)) ≠ wdL 2 := fun e => by rw [q3] at e; exact absurd e (by decide)
        rw [if_pos q3, if_pos q3, if_neg n01]
        unfold jX7_readField_58
        rw [e_isWord_902 b1, Option.bind_some, if_neg q4, if_pos rfl]
        obtain ⟨i1, i2⟩ := e_fdV (sc := 0) hp hm0 b1 C3
        refine ⟨fun t' q w sc ee => ?_, fun t' ee => ?_⟩
        · obtain ⟨h, x1, x2, x3, x4, x5, x6, x7, x8, x9⟩ := i1 t' q w sc ee
          exact ⟨h, x1, x2, x3, by omega, x5, x6, x7, x8, Cs_tr fr3 (wCr_Cs x9)⟩
        · obtain ⟨h, x1, x2, x9⟩ := i2 t' ee
          exact ⟨h, x1, x2, Cs_tr fr3 (wCr_Cs x9)⟩
      · rw [if_neg q3, if_neg q3, if_pos rfl, e_isWord_902 b1, Option.bind_some]
        by_cases q4 : wd tn tb (sk tn tb (te tn tb t)) = wdL 2
        · rw [if_pos q4, if_pos q4, if_neg n01]
          unfold jX7_readField_58
          rw [e_isWord_902 b1, Option.bind_some, if_pos q4, if_neg n01]
          obtain ⟨i1, i2⟩ := e_fdV (sc := 1) hp hm0 b1 C3
          refine ⟨fun t' q w sc ee => ?_, fun t' ee => ?_⟩
          · obtain ⟨h, x1, x2, x3, x4, x5, x6, x7, x8, x9⟩ := i1 t' q w sc ee
            exact ⟨h, x1, x2, x3, by omega, x5, x6, x7, x8, Cs_tr fr3 (wCr_Cs x9)⟩
          · obtain ⟨h, x1, x2, x9⟩ := i2 t' ee
            exact ⟨h, x1, x2, Cs_tr fr3 (wCr_Cs x9)⟩
        · rw [if_neg q4, if_neg q4, if_pos rfl]
          refine ⟨fun t' q w sc ee => (by cases ee), fun t' ee => ?_⟩
          cases ee
          exact ⟨g3, rfl, b1, fr3⟩
  · rw [if_neg q1, if_pos rfl, if_neg (fun e => q1 e.1)]
    refine ⟨fun t' q w sc ee => (by cases ee), fun t' ee => ?_⟩
    cases ee
    exact ⟨g1, rfl, a1, wCr_Cs (wT2_Cr a2)⟩
end Fo
