
/-! ===== read: an edit's line, the reference ===== -/
section El
variable {g h k : zS} {tn : Nat} {tb : Nat → Nat} {s p : Nat} {P : zPl} {N : Nat} {r : Nat → Nat}
/-- all values of a field -/
def aV (P : zPl) (f : Nat) : Nat := 2 ^ pq P f - 1
theorem e_readEdit (hO : pOK P) (hn : nmOK P) (hm : pm P < 6) (hp0 : pn P ≠ 0) (hA : tkA tn tb s g) (hD : cDf P N r g) : (∀ t' V', edR P tn tb 6 (sk tn tb (te tn tb s)) 0 (aV P) = .inl (t', V') → ∃ h, nX7_readEdit g = some (1, h) ∧ tkA tn tb t' h ∧ cDf (wE P V') N r h ∧ (∀ f, f < pn P → V' f < 2 ^ pq P f) ∧ mw wCr g h) ∧ (∀ t', edR P tn tb 6 (sk tn tb (te tn tb s)) 0 (aV P) = .inr t' → ∃ h, nX7_readEdit g = some (0, h) ∧ tkA tn tb t' h ∧ mw wCr g h) := by
  have h5 := hO.1
  have key : ∃ z, nX7_readEdit g = wh (wX7_readEdit_65 (nI (pm P * 5))) (nI 0, nI 0, z) ∧ tkA tn tb s z ∧ cDf (wE P (aV P)) N r z ∧ mw wCr g z := by
    have lp : ∀ j, j ≤ pn P → ∀ z, mw (fun c _ => c = 17) g z → (∀ f, f < pn P - j → z.1 17 (pm P * 5 + f) = nI (aV P f)) → (∀ i, i < pm P * 5 → z.1 17 i = g.1 17 i) → ∃ y, wh (wX7_readEdit_12 (nI (pm P * 5))) (nI (pn P - j), z) = wh (wX7_readEdit_65 (nI (pm P * 5))) (nI 0, nI 0, zi y 11 7 (nI (pm P + 1))) ∧ mw (fun c _ => c = 17) g y ∧ (∀ f, f < pn P → y.1 17 (pm P * 5 + f) = nI (aV P f)) ∧ (∀ i, i < pm P * 5 → y.1 17 i = g.1 17 i) := by
      intro j
      induction j with
      | zero =>
        intro _ z z1 z2 z3
        refine ⟨z, ?_, z1, z2, z3⟩
        have hst : ∀ o, wh (wX7_readEdit_65 (nI (pm P * 5))) (nI 0, nI 0, zi z 11 7 (nI (pm P + 1))) = o → wX7_readEdit_12 (nI (pm P * 5)) (nI (pn P - 0), z) = zex o := fun o ho => by
          unfold wX7_readEdit_12
          dsimp only
          rw [z1.1 11 0 (by omega), hD.1, Nat.sub_zero, if_pos (Int32.le_refl _), z1.1 11 7 (by omega), hD.2.2.2.2.2.1, nI_s, ← ho]
          rfl
        rw [wh_eq, hst _ rfl]
        cases wh (wX7_readEdit_65 (nI (pm P * 5))) (nI 0, nI 0, zi z 11 7 (nI (pm P + 1))) <;> rfl
      | succ j ih =>
        intro hj z z1 z2 z3
        obtain ⟨f, ef⟩ : ∃ f, f = pn P - (j + 1) := ⟨_, rfl⟩
        have hf : f < pn P := by omega
        have hq := hO.2.1 f hf
        have hst : wX7_readEdit_12 (nI (pm P * 5)) (nI f, z) = some (.inl (nI (f + 1), zi z 17 (pm P * 5 + f) (nI (aV P f)))) := by
          have e12 : z.1 12 f = nI (pq P f) := by rw [z1.1 12 f (by omega)]; exact hD.2.1 f hf
          unfold wX7_readEdit_12 nX6_allValues_d
          dsimp only
          rw [z1.1 11 0 (by omega), hD.1, if_neg (fun e => by rw [nN_le (by omega) (by omega)] at e; omega), zchk_t (zin_nI (by omega) (by omega)), nI_cl (by omega), e12, nI_shl (by omega), Option.bind_some, nN_add, zchk_t (zin_nI (by omega) (by omega)), nI_cl (by omega), nI_s, show nI (2 ^ pq P f) - (1 : Int32) = nI (aV P f) from nI_sub (b := 1) (Nat.pow_pos (by omega))]
        rw [← ef, wh_in hst, show f + 1 = pn P - j by omega]
        refine ih (by omega) _ (mw_tr z1 (mw_zi (W := fun c _ => c = 17) rfl _ _)) (fun e he => ?_) (fun i hi => ?_)
        · by_cases q : e = f
          · rw [q, zi_at]
          · rw [zi_else _ _ (by omega)]; exact z2 e (by omega)
        · rw [zi_else _ _ (by omega)]; exact z3 i hi
    obtain ⟨y, w, y1, y2, y3⟩ := lp (pn P) (Nat.le_refl _) g (mw_rfl _) (fun f hf => by omega) (fun _ _ => rfl)
    have m1 : mw wCr g (zi y 11 7 (nI (pm P + 1))) := mw_tr (mw_le (fun c k q => by unfold wCr; omega) y1) (mw_zi (Or.inl ⟨by omega, by omega⟩) _ _)
    refine ⟨zi y 11 7 (nI (pm P + 1)), ?_, tkA_mw (W := fun c _ => c = 11 ∨ c = 17) (fun c k q => by omega) (mw_tr (mw_le (fun c k q => Or.inr q) y1) (mw_zi (W := fun c _ => c = 11 ∨ c = 17) (Or.inl rfl) _ _)) hA, ?_, m1⟩
    · rw [← w, Nat.sub_self]
      unfold nX7_readEdit
      rw [hD.2.2.2.2.2.1, show nI (pm P) * (5 : Int32) = nI (pm P * 5) from nI_mul _ 5]
      rfl
    · obtain ⟨d0, d1, d2, d3, d4, d5, d6, d7, d8, d9, d10⟩ := hD
      have e : ∀ c, c ≠ 11 → c ≠ 17 → (zi y 11 7 (nI (pm P + 1))).1 c = g.1 c := fun c h1 h2 => by rw [zi_cell _ _ h1]; exact funext fun k => y1.1 c k h2
      have e11 : ∀ k, k ≠ 7 → (zi y 11 7 (nI (pm P + 1))).1 11 k = g.1 11 k := fun k hk => by rw [zi_else _ _ (by omega)]; exact y1.1 11 k (by omega)
      refine ⟨by rw [e11 0 (by omega)]; exact d0, fun f hf => by rw [e 12 (by omega) (by omega)]; exact d1 f hf, fun f hf => by rw [e 13 (by omega) (by omega)]; exact d2 f hf, fun f hf => by rw [e 14 (by omega) (by omega)]; exact d3 f hf, by rw [e11 6 (by omega)]; exact d4, zi_at _ _ _ _, fun x hx f hf => ?_, fun f hf => by rw [e 16 (by omega) (by omega), e 15 (by omega) (by omega)]; exact d7 f hf, by rw [e11 9 (by omega)]; exact d8, d9, fun j hj => by rw [e 18 (by omega) (by omega)]; exact d10 j hj⟩
      have hf' : f < pn P := hf
      have hx' : x < pm P + 1 := hx
      rw [zi_cell _ _ (by omega)]
      show _ = nI (if x = pm P then aV P f else pE P x f)
      by_cases q : x = pm P
      · rw [if_pos q, q]; exact y2 f hf'
      · rw [if_neg q, y3 _ (by omega)]; exact d6 x (by omega) f hf'
  obtain ⟨z, w, z1, z2, z3⟩ := key
  have hV : ∀ f, f < pn P → aV P f < 2 ^ pq P f := fun f hf => by
    have : 0 < 2 ^ pq P f := Nat.pow_pos (by omega)
    unfold aV
    omega
  obtain ⟨i1, i2⟩ := e_edit65 (r := r) hO hn hm hp0 6 s 0 (aV P) 0 z z1 (by omega) (cnt_zero (fun i hi => Nat.zero_testBit i)) (by omega) z2 hV
  rw [w]
  refine ⟨fun t' V' e => ?_, fun t' e => ?_⟩
  · obtain ⟨h, w2, r1, r2, r3, r4⟩ := i1 t' V' e
    exact ⟨h, w2, r1, r2, r3, mw_tr z3 r4⟩
  · obtain ⟨h, w2, r1, r4⟩ := i2 t' e
    exact ⟨h, w2, r1, mw_tr z3 r4⟩
end El
