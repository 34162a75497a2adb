
/-! ===== acts ===== -/
section Ac
variable {P : zPl} {g : zS} {N K : Nat} {r hN : Nat → Nat} {hr : Nat → Nat → Nat}
/-- what the class keeps of earlier rows -/
def cH (P : zPl) (K : Nat) (hN : Nat → Nat) (hr : Nat → Nat → Nat) (g : zS) : Prop := g.1 31 2 = nI K ∧ K ≤ 16 ∧ ∀ p, p < K → hN p ≤ 40 ∧ g.1 33 (p * 41) = nI (hN p) ∧ ∀ i, i < hN p → g.1 33 (p * 41 + 1 + i) = nI (hr p i) ∧ rOK P (hr p i)
theorem cH_fr {L : Nat → Bool} {h : zS} (hK : L 31 = false ∧ L 33 = false) (a : fr L g h) (p : cH P K hN hr g) : cH P K hN hr h := by
  unfold cH at p ⊢
  rw [(a.1 31 hK.1).1, (a.1 33 hK.2).1]
  exact p
theorem zcpy_cell (g : zS) {i j d : Nat} (a b n : Int32) (h : d ≠ j) : (zcpy g i j a b n).1 d = g.1 d := by
  unfold zcpy
  exact if_neg h
def kRw (c : Nat) : Bool := decide (31 ≤ c) && decide (c ≤ 33)
theorem e_rem36 (hR : rR P N r g) (hH : cH P K hN hr g) (hK : K < 16) : ∃ h, jX8_remember_36 g = some h ∧ fr kRw g h ∧ rR P N r h ∧ cH P (K + 1) (fun p => if p = K then N else hN p) (fun p => if p = K then r else hr p) h := by
  obtain ⟨r1, r2, r3⟩ := hR
  obtain ⟨k1, k2, k3⟩ := hH
  unfold jX8_remember_36
  rw [k1, show (41 : Int32) = nI 41 from rfl, nI_mul, zchk_t (zin_nI (by omega) (by omega)), nI_cl (by omega), r1]
  have e1 : (zi g 33 (K * 41) (nI N)).1 31 2 = nI K := by rw [zi_cell _ _ (by decide)]; exact k1
  have hF1 : fr kRw g (zi g 33 (K * 41) (nI N)) := fr_zi rfl _ _ _
  have v1 : ∀ k, (zi g 33 (K * 41) (nI N)).1 33 k = if k = K * 41 then nI N else g.1 33 k := fun k => by
    by_cases q : k = K * 41
    · rw [if_pos q, q, zi_at]
    · rw [if_neg q, zi_else _ _ (fun e => q e.2)]
  have c1 : (zi g 33 (K * 41) (nI N)).1 32 = g.1 32 := zi_cell _ _ (by decide)
  have d1 : (zi g 33 (K * 41) (nI N)).1 31 = g.1 31 := zi_cell _ _ (by decide)
  generalize zi g 33 (K * 41) (nI N) = g1 at *
  rw [e1, nI_mul, nI_s, show (0 : Int32) = nI 0 from rfl, show (40 : Int32) = nI 40 from rfl, zchk_t (zcpo_t (by omega) (by omega) (by omega) (by omega))]
  have hF2 : fr kRw g1 (zcpy g1 32 33 (nI 0) (nI (K * 41 + 1)) (nI 40)) := fr_zir rfl _ _
  have v2 : ∀ k, (zcpy g1 32 33 (nI 0) (nI (K * 41 + 1)) (nI 40)).1 33 k = if K * 41 + 1 ≤ k ∧ k < K * 41 + 1 + 40 then g1.1 32 (0 + (k - (K * 41 + 1))) else g1.1 33 k := fun k => zcpyA g1 (by omega) (by omega) (by omega)
  have c2 : (zcpy g1 32 33 (nI 0) (nI (K * 41 + 1)) (nI 40)).1 32 = g1.1 32 := zcpy_cell _ _ _ _ (by decide)
  have d2 : (zcpy g1 32 33 (nI 0) (nI (K * 41 + 1)) (nI 40)).1 31 = g1.1 31 := zcpy_cell _ _ _ _ (by decide)
  generalize zcpy g1 32 33 (nI 0) (nI (K * 41 + 1)) (nI 40) = g2 at *
  rw [d2, e1, nI_s]
  have hF3 : fr kRw g2 (zi g2 31 2 (nI (K + 1))) := fr_zi rfl _ _ _
  refine ⟨_, rfl, fr_tr hF1 (fr_tr hF2 hF3), ⟨?_, r2, fun k hk => ?_⟩, zi_at _ _ _ _, by omega, fun p hp => ?_⟩
  · rw [zi_else _ _ (by decide), d2, d1]; exact r1
  · rw [zi_cell _ _ (by decide), c2, c1]; exact r3 k hk
  · rw [zi_cell _ _ (by decide)]
    dsimp only
    by_cases q : p = K
    · subst q
      rw [if_pos rfl, if_pos rfl]
      refine ⟨r2, ?_, fun i hi => ⟨?_, (r3 i hi).2⟩⟩
      · rw [v2, if_neg (by omega), v1, if_pos rfl]
      · rw [v2, if_pos (by omega), c1, show 0 + (p * 41 + 1 + i - (p * 41 + 1)) = i by omega]
        exact (r3 i hi).1
    · rw [if_neg q, if_neg q]
      obtain ⟨h1, h2, h3⟩ := k3 p (by omega)
      refine ⟨h1, ?_, fun i hi => ⟨?_, (h3 i hi).2⟩⟩
      · rw [v2, if_neg (by omega), v1, if_neg (by omega)]; exact h2
      · rw [v2, if_neg (by omega), v1, if_neg (by omega)]; exact (h3 i hi).1
/-- what is kept behind an act -/
def rmK (K : Nat) : Nat := if K = 16 then 16 else K + 1
def rmS {A : Type} (K : Nat) (h : Nat → A) (n : A) (p : Nat) : A := if p + 1 = rmK K then n else if K = 16 then h (p + 1) else h p
theorem cH_congr {hN' : Nat → Nat} {hr' : Nat → Nat → Nat} (h1 : ∀ p, p < K → hN p = hN' p) (h2 : ∀ p, p < K → hr p = hr' p) (h : cH P K hN hr g) : cH P K hN' hr' g := ⟨h.1, h.2.1, fun p hp => by rw [← h1 p hp, ← h2 p hp]; exact h.2.2 p hp⟩
theorem e_remember (hR : rR P N r g) (hH : cH P K hN hr g) : ∃ h, nX8_remember g = some h ∧ fr kRw g h ∧ rR P N r h ∧ cH P (rmK K) (rmS K hN N) (rmS K hr r) h := by
  have hH' := hH
  obtain ⟨k1, k2, k3⟩ := hH
  unfold nX8_remember
  by_cases h16 : K = 16
  · subst h16
    rw [k1, if_pos (show nI 16 = (16 : Int32) from rfl), show (41 : Int32) = nI 41 from rfl, show (0 : Int32) = nI 0 from rfl, show (615 : Int32) = nI 615 from rfl, zchk_t (zcpo_t (by omega) (by omega) (by omega) (by omega))]
    have hF1 : fr kRw g (zcpy g 33 33 (nI 41) (nI 0) (nI 615)) := fr_zir rfl _ _
    have v1 : ∀ k, (zcpy g 33 33 (nI 41) (nI 0) (nI 615)).1 33 k = if 0 ≤ k ∧ k < 0 + 615 then g.1 33 (41 + (k - 0)) else g.1 33 k := fun k => zcpyA g (by omega) (by omega) (by omega)
    have c1 : (zcpy g 33 33 (nI 41) (nI 0) (nI 615)).1 32 = g.1 32 := zcpy_cell _ _ _ _ (by decide)
    have d1 : (zcpy g 33 33 (nI 41) (nI 0) (nI 615)).1 31 = g.1 31 := zcpy_cell _ _ _ _ (by decide)
    generalize zcpy g 33 33 (nI 41) (nI 0) (nI 615) = g1 at *
    rw [d1, k1, show nI 16 - (1 : Int32) = nI 15 from rfl]
    have hF2 : fr kRw g1 (zi g1 31 2 (nI 15)) := fr_zi rfl _ _ _
    have hR2 : rR P N r (zi g1 31 2 (nI 15)) := ⟨by rw [zi_else _ _ (by decide), d1]; exact hR.1, hR.2.1, fun k hk => by rw [zi_cell _ _ (by decide), c1]; exact hR.2.2 k hk⟩
    have hH2 : cH P 15 (fun p => hN (p + 1)) (fun p => hr (p + 1)) (zi g1 31 2 (nI 15)) := ⟨zi_at _ _ _ _, by omega, fun p hp => by
      rw [zi_cell _ _ (by decide)]
      obtain ⟨h1, h2, h3⟩ := k3 (p + 1) (by omega)
      refine ⟨h1, ?_, fun i hi => ⟨?_, (h3 i hi).2⟩⟩
      · rw [v1, if_pos (by omega), show 41 + (p * 41 - 0) = (p + 1) * 41 by omega]; exact h2
      · have hi' : i < hN (p + 1) := hi
        rw [v1, if_pos (by omega), show 41 + (p * 41 + 1 + i - 0) = (p + 1) * 41 + 1 + i by omega]; exact (h3 i hi).1⟩
    obtain ⟨h, w, a1, a2, a3⟩ := e_rem36 hR2 hH2 (by omega)
    refine ⟨h, w, fr_tr hF1 (fr_tr hF2 a1), a2, cH_congr (fun p hp => ?_) (fun p hp => ?_) a3⟩
    · show (if p = 15 then N else hN (p + 1)) = if p + 1 = 16 then N else hN (p + 1)
      by_cases q : p = 15
      · rw [if_pos q, if_pos (by omega)]
      · rw [if_neg q, if_neg (by omega)]
    · show (if p = 15 then r else hr (p + 1)) = if p + 1 = 16 then r else hr (p + 1)
      by_cases q : p = 15
      · rw [if_pos q, if_pos (by omega)]
      · rw [if_neg q, if_neg (by omega)]
  · rw [k1, if_neg (show ¬ nI K = (16 : Int32) from fun q => h16 ((nN_eq (b := 16) (by omega) (by omega)).mp q))]
    obtain ⟨h, w, a1, a2, a3⟩ := e_rem36 hR hH' (by omega)
    have eK : rmK K = K + 1 := if_neg h16
    rw [eK]
    refine ⟨h, w, a1, a2, cH_congr (fun p hp => ?_) (fun p hp => ?_) a3⟩
    · unfold rmS
      rw [eK, if_neg h16]
      by_cases q : p = K
      · rw [if_pos q, if_pos (by omega)]
      · rw [if_neg q, if_neg (by omega)]
    · unfold rmS
      rw [eK, if_neg h16]
      by_cases q : p = K
      · rw [if_pos q, if_pos (by omega)]
      · rw [if_neg q, if_neg (by omega)]
theorem e_codeOf (hR : rR P N r g) {i : Nat} (hi : i < N) : nX8_codeOf (nI i) g = some (nI (r i)) := by
  obtain ⟨r1, r2, r3⟩ := hR
  unfold nX8_codeOf
  rw [if_neg (nI_nn (by omega)), r1, if_pos ((nN_lt (by omega) (by omega)).mpr hi), zchk_t (zin_nI (by omega) (by omega)), nI_cl (by omega), (r3 i hi).1]
end Ac
