
/-! ===== read: a field's line, the class, whole ===== -/
section Fn
variable {g h k : zS} {tn : Nat} {tb : Nat → Nat} {s p t : Nat} {P : zPl} {N : Nat} {r : Nat → Nat}
theorem e_fdV (hp : pn P < 5) (hm0 : pm P = 0) (hA : tkA tn tb s g) (hC : fdC P r tn tb t g) {sc : Nat} : (∀ t' q w sc', fdV tn tb (sk tn tb (te tn tb s)) sc = .inl (t', q, w, sc') → ∃ h, jX7_readField_80 (nI (pn P)) (nI (pn P)) (nI sc) g = some (1, h) ∧ tkA tn tb t' h ∧ cDf (wF P q w sc' (wd tn tb t)) 0 r h ∧ sc' = sc ∧ 2 ≤ q ∧ q ≤ 5 ∧ 1 ≤ w ∧ w ≤ 9 ∧ mw wCr g h) ∧ (∀ t', fdV tn tb (sk tn tb (te tn tb s)) sc = .inr t' → ∃ h, jX7_readField_80 (nI (pn P)) (nI (pn P)) (nI sc) g = some (0, h) ∧ tkA tn tb t' h ∧ mw wCr g h) := by
  have m14 : mw wCr g (zi g 14 (pn P) (nI sc)) := mw_zi (Or.inl ⟨by omega, by omega⟩) _ _
  have zA : tkA tn tb s (zi g 14 (pn P) (nI sc)) := tkA_mw (W := fun c _ => c = 14) (fun c k q => by omega) (mw_zi (W := fun c _ => c = 14) rfl _ _) hA
  have zC := fdC_14 (x := nI sc) hC
  obtain ⟨g1, w1, a1, a2⟩ := e_nextA zA
  have C1 := fdC_mw (fun c k q => by unfold wT2 at q; omega) a2 zC
  have s1 : g1.1 14 (pn P) = nI sc := by rw [a2.1 14 _ (by unfold wT2; omega), zi_at]
  have fr1 : mw wCr g g1 := mw_tr m14 (wT2_Cr a2)
  obtain ⟨n1, n2⟩ := e_takeNumber (lo := 2) (hi := 5) a1 (by omega) (by omega)
  unfold jX7_readField_80
  rw [zchk_t (zin_nI (by omega) (by omega)), nI_cl (by omega), w1, Option.bind_some]
  unfold fdV
  by_cases d : dgO tn tb (sk tn tb (te tn tb s)) 2 5
  · obtain ⟨g2, w2, b1, b2⟩ := n1 d
    have C2 := fdC_mw (fun c k q => by unfold wT2 at q; omega) b2 C1
    have s2 : g2.1 14 (pn P) = nI sc := by rw [b2.1 14 _ (by unfold wT2; omega)]; exact s1
    have fr2 : mw wCr g g2 := mw_tr fr1 (wT2_Cr b2)
    obtain ⟨d1, d2, d3, d4⟩ := id d
    rw [if_pos d, show nX7_takeNumber (2 : Int32) (5 : Int32) g1 = some (nI (tb (sk tn tb (te tn tb s)) - 48), g2) from w2, Option.bind_some]
    dsimp only
    rw [if_neg (fun e => by rw [nI_m1, nN_eqm (by omega)] at e; exact e), e_isWord_903 b1, Option.bind_some]
    unfold fdW
    by_cases q : wd tn tb (sk tn tb (te tn tb (sk tn tb (te tn tb s)))) = wdL 3
    · rw [if_pos q, if_pos q, if_neg n01]
      obtain ⟨g3, w3, c1, c2⟩ := e_nextA b1
      have C3 := fdC_mw (fun c k q => by unfold wT2 at q; omega) c2 C2
      have s3 : g3.1 14 (pn P) = nI sc := by rw [c2.1 14 _ (by unfold wT2; omega)]; exact s2
      have fr3 : mw wCr g g3 := mw_tr fr2 (wT2_Cr c2)
      obtain ⟨y1, y2⟩ := e_takeNumber (lo := 1) (hi := 9) c1 (by omega) (by omega)
      rw [w3, Option.bind_some]
      by_cases e : dgO tn tb (sk tn tb (te tn tb (sk tn tb (te tn tb (sk tn tb (te tn tb s)))))) 1 9
      · obtain ⟨g4, w4, f1, f2⟩ := y1 e
        obtain ⟨e1, e2, e3, e4⟩ := id e
        have C4 := fdC_mw (fun c k q => by unfold wT2 at q; omega) f2 C3
        have s4 : g4.1 14 (pn P) = nI sc := by rw [f2.1 14 _ (by unfold wT2; omega)]; exact s3
        rw [if_pos e, show nX7_takeNumber (1 : Int32) (9 : Int32) g3 = some (nI (tb (sk tn tb (te tn tb (sk tn tb (te tn tb (sk tn tb (te tn tb s)))))) - 48), g4) from w4, Option.bind_some]
        dsimp only
        refine ⟨fun t' q w sc' ee => ?_, fun t' ee => (by cases ee)⟩
        cases ee
        obtain ⟨h, x1, x2, x3, x4⟩ := fd_122 (q := tb (sk tn tb (te tn tb s)) - 48) (w := tb (sk tn tb (te tn tb (sk tn tb (te tn tb (sk tn tb (te tn tb s)))))) - 48) hp hm0 f1 C4 s4 (by omega)
        exact ⟨h, x1, x2, x3, rfl, by omega, by omega, by omega, by omega, mw_tr fr3 (mw_tr (wT2_Cr f2) x4)⟩
      · rw [if_neg e, show nX7_takeNumber (1 : Int32) (9 : Int32) g3 = some (-1, g3) from y2 e, Option.bind_some]
        dsimp only
        refine ⟨fun t' q w sc' ee => (by cases ee), fun t' ee => ?_⟩
        cases ee
        unfold jX7_readField_122
        rw [zchk_t (zin_nI (by omega) (by omega)), zchk_t (zin_nI (by omega) (by omega)), if_pos rfl, nI_cl (by omega)]
        have mz : mw (fun c _ => c = 11 ∨ c = 12 ∨ c = 13) g3 (zi (zi (zi g3 12 (pn P) (nI (tb (sk tn tb (te tn tb s)) - 48))) 13 (pn P) (-1)) 11 0 ((zi (zi g3 12 (pn P) (nI (tb (sk tn tb (te tn tb s)) - 48))) 13 (pn P) (-1)).1 11 0 + 1)) := mw_tr (mw_zi (W := fun c _ => c = 11 ∨ c = 12 ∨ c = 13) (Or.inr (Or.inl rfl)) _ _) (mw_tr (mw_zi (W := fun c _ => c = 11 ∨ c = 12 ∨ c = 13) (Or.inr (Or.inr rfl)) _ _) (mw_zi (W := fun c _ => c = 11 ∨ c = 12 ∨ c = 13) (Or.inl rfl) _ _))
        exact ⟨_, rfl, tkA_mw (fun c k q => by omega) mz c1, mw_tr fr3 (mw_le (fun c k q => by unfold wCr; omega) mz)⟩
    · rw [if_neg q, if_neg q, if_pos rfl]
      refine ⟨fun t' q w sc' ee => ?_, fun t' ee => (by cases ee)⟩
      cases ee
      obtain ⟨h, x1, x2, x3, x4⟩ := fd_122 (q := tb (sk tn tb (te tn tb s)) - 48) (w := 1) hp hm0 b1 C2 s2 (by omega)
      exact ⟨h, x1, x2, x3, rfl, by omega, by omega, by omega, by omega, mw_tr fr2 x4⟩
  · rw [if_neg d, show nX7_takeNumber (2 : Int32) (5 : Int32) g1 = some (-1, g1) from n2 d, Option.bind_some]
    dsimp only
    rw [if_pos rfl]
    refine ⟨fun t' q w sc' ee => (by cases ee), fun t' ee => ?_⟩
    cases ee
    exact ⟨g1, rfl, a1, fr1⟩
end Fn
