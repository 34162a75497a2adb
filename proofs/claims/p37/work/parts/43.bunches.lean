
/-! ===== all bunches; the rest of kinds ===== -/
section Bv
variable {P : zPl} {g : zS} {N : Nat} {r : Nat → Nat}
/-- the bunches of the first n rows -/
def gbR (A : Nat → Nat → Bool) (N : Nat) : Nat → Nat → (Nat → Nat) → Prop
  | 0, b, B => b = 0 ∧ ∀ x, x < N → B x = 0
  | i + 1, b, B => ∃ b0 B0, gbR A N i b0 B0 ∧ ((B0 i = 0 ∧ b = b0 + 1 ∧ flP A N B0 b0 i B) ∨ (B0 i ≠ 0 ∧ b = b0 ∧ ∀ x, x < N → B x = B0 x))
theorem gbR_le {A : Nat → Nat → Bool} : ∀ i, i ≤ N → ∀ {b B}, gbR A N i b B → b ≤ i ∧ ∀ x, x < N → B x ≤ b := by
  intro i
  induction i with
  | zero => intro _ b B h; exact ⟨by rw [h.1]; exact Nat.le_refl _, fun x hx => by rw [h.2 x hx]; exact Nat.zero_le _⟩
  | succ i ih =>
    intro hi b B h
    obtain ⟨b0, B0, h1, h2⟩ := h
    obtain ⟨i1, i2⟩ := ih (by omega) h1
    rcases h2 with ⟨c, e, f⟩ | ⟨c, e, f⟩
    · refine ⟨by omega, fun x hx => ?_⟩
      by_cases q : B0 x = 0
      · rcases f.2.2.1 x hx q with k | k
        · omega
        · rw [k.1, e]; exact Nat.le_refl _
      · rw [f.2.1 x hx q]
        have := i2 x hx
        omega
    · refine ⟨by omega, fun x hx => ?_⟩
      rw [f x hx, e]
      exact i2 x hx
theorem flP_congr {A : Nat → Nat → Bool} {B B1 B' : Nat → Nat} {b w : Nat} (he : ∀ x, x < N → B x = B1 x) (h : flP A N B b w B') : flP A N B1 b w B' := by
  refine ⟨h.1, fun x hx q => by rw [← he x hx] at q ⊢; exact h.2.1 x hx q, fun x hx q => ?_, h.2.2.2⟩
  rw [← he x hx] at q
  rcases h.2.2.1 x hx q with k | k
  · exact Or.inl k
  · exact Or.inr ⟨k.1, fun S s1 s2 => k.2 S s1 (fun a y ha hy h0 hA => s2 a y ha hy (by rw [← he y hy]; exact h0) hA)⟩
theorem gbR_uniq {A : Nat → Nat → Bool} : ∀ i, i ≤ N → ∀ {b B b' B'}, gbR A N i b B → gbR A N i b' B' → b = b' ∧ ∀ x, x < N → B x = B' x := by
  intro i
  induction i with
  | zero => intro _ b B b' B' h k; exact ⟨h.1.trans k.1.symm, fun x hx => (h.2 x hx).trans (k.2 x hx).symm⟩
  | succ i ih =>
    intro hi b B b' B' h k
    obtain ⟨b0, B0, h1, h2⟩ := h
    obtain ⟨b1, B1, k1, k2⟩ := k
    obtain ⟨e1, e2⟩ := ih (by omega) h1 k1
    obtain ⟨l1, l2⟩ := gbR_le i (by omega) h1
    subst e1
    rcases h2 with ⟨c, e, f⟩ | ⟨c, e, f⟩
    · rcases k2 with ⟨c', e', f'⟩ | ⟨c', e', f'⟩
      · exact ⟨e.trans e'.symm, flP_uniq f (flP_congr (fun x hx => (e2 x hx).symm) f') (by omega) l2⟩
      · exact absurd ((e2 i (by omega)).symm.trans c) c'
    · rcases k2 with ⟨c', e', f'⟩ | ⟨c', e', f'⟩
      · exact absurd ((e2 i (by omega)).trans c') c
      · exact ⟨e.trans e'.symm, fun x hx => by rw [f x hx, f' x hx, e2 x hx]⟩
theorem e_gatherBunches (hO : pOK P) (hP : cP P g) (hR : rR P N r g) (n : Int32) : ∃ h b B, nX4_gatherBunches n g = some (nI b, h) ∧ fr k389 g h ∧ gbR (adj P r n) N N b B ∧ ∀ x, x < N → h.1 38 x = nJ (B x) := by
  have hN := hR.2.1
  unfold nX4_gatherBunches
  obtain ⟨g1, k1, k2, k3, k4⟩ := e_fill (c := 38) (n := 40) (by omega) (-1) g
  rw [k1, Option.bind_some]
  have hF1 : fr k389 g g1 := ⟨fun c hc => ⟨k3 c (fun e => by rw [e] at hc; cases hc), by rw [k4]⟩, by rw [k4]; exact id, by rw [k4]⟩
  obtain ⟨⟨b, h⟩, ww, q⟩ := wh_up (step := wX4_gatherBunches_12 n) (fun i (s : Int32 × Int32 × zS) => ∃ b B, s.1 = nI b ∧ s.2.1 = nI i ∧ gbR (adj P r n) N i b B ∧ fr k389 g s.2.2 ∧ ∀ x, x < N → s.2.2.1 38 x = nJ (B x)) (fun o : Int32 × zS => ∃ b B, o.1 = nI b ∧ fr k389 g o.2 ∧ gbR (adj P r n) N N b B ∧ ∀ x, x < N → o.2.1 38 x = nJ (B x)) N (fun i s hi hI => by
    obtain ⟨b, B, j1, j2, j3, j4, j5⟩ := hI
    obtain ⟨u0, u1, u2⟩ := s
    dsimp only at j1 j2 j4 j5
    have hR2 := rR_fr (K := k389) ⟨rfl, rfl⟩ j4 hR
    have hP2 := cP_fr ⟨rfl, rfl, rfl, rfl, rfl, rfl, rfl⟩ j4 hP
    obtain ⟨l1, l2⟩ := gbR_le i (by omega) j3
    have l3 := l2 i hi
    dsimp only [wX4_gatherBunches_12]
    rw [j1, j2, hR2.1, if_neg (by rw [nN_le (by omega) (by omega)]; omega), zchk_t (zin_nI (by omega) (by omega)), nI_cl (by omega), j5 i hi]
    by_cases c : B i = 0
    · rw [if_pos ((nJ_m1 (by omega)).mpr c)]
      obtain ⟨h, w, a1, B', a2, a3⟩ := e_fillBunch (n := n) hO hP2 hR2 l2 (by omega) hi c j5
      rw [w, Option.bind_some, nI_s, nI_s]
      exact ⟨_, rfl, b + 1, B', rfl, rfl, ⟨b, B, j3, Or.inl ⟨c, rfl, a2⟩⟩, fr_tr j4 a1, a3⟩
    · rw [if_neg (fun e => c ((nJ_m1 (by omega)).mp e)), nI_s]
      exact ⟨_, rfl, b, B, rfl, rfl, ⟨b, B, j3, Or.inr ⟨c, rfl, fun _ _ => rfl⟩⟩, j4, j5⟩) (fun s hI => by
    obtain ⟨b, B, j1, j2, j3, j4, j5⟩ := hI
    obtain ⟨u0, u1, u2⟩ := s
    dsimp only at j1 j2 j4 j5
    have hR2 := rR_fr (K := k389) ⟨rfl, rfl⟩ j4 hR
    dsimp only [wX4_gatherBunches_12]
    rw [j1, j2, hR2.1, if_pos (Int32.le_refl _)]
    exact ⟨_, rfl, b, B, rfl, j4, j3, j5⟩) (s := ((0 : Int32), (0 : Int32), g1)) ⟨0, fun _ => 0, rfl, rfl, ⟨rfl, fun _ _ => rfl⟩, hF1, fun x hx => by rw [k2 x (by omega), nJ_0]⟩
  obtain ⟨b', B, q1, q2, q3, q4⟩ := q
  dsimp only at q1 q2 q4
  subst q1
  exact ⟨h, b', B, ww, q2, q3, q4⟩
theorem e_bunchOf {i : Nat} (hi : i < 40) : nX4_bunchOf (nI i) g = some (g.1 38 i) := by
  unfold nX4_bunchOf
  rw [zchk_t (zin_nI hi (by omega)), nI_cl (by omega)]
theorem e_countMissing (hO : pOK P) (hP : cP P g) (hR : rR P N r g) : nX4_countMissing g = some (nI (sm (fun k => pcn (rmis (r k) (pn P))) N)) := by
  have h5 := hO.1
  have h7 := p2n hO
  obtain ⟨r1, r2, r3⟩ := hR
  unfold nX4_countMissing
  refine wh_seq (fun i => (nI (sm (fun k => pcn (rmis (r k) (pn P))) i), nI i)) N (fun i hi => ?_) ?_
  · have hb : rmis (r i) (pn P) < 2 ^ pn P := bS_lt _ _
    dsimp only [wX4_countMissing_4]
    rw [r1, if_neg (by rw [nN_le (by omega) (by omega)]; omega), zchk_t (zin_nI (by omega) (by omega)), nI_cl (by omega), (r3 i hi).1, hP.1, e_missingIn (r3 i hi).2.1 h5, Option.bind_some, e_bitCount (by omega), Option.bind_some, nN_add, nI_s]
    rfl
  · dsimp only [wX4_countMissing_4]
    rw [r1, if_pos (Int32.le_refl _)]
    rfl
theorem e_countMendable {t : Nat} (ht : t < 2147483648) (h6 : g.1 20 6 = nI t) (hR : rR P N r g) : nX4_countMendable g = some (nI (if t = 0 then 0 else N)) := by
  unfold nX4_countMendable
  rw [h6, hR.1]
  by_cases c : t = 0
  · rw [if_pos (show nI t ≤ 0 by rw [c]; exact Int32.le_refl _), if_pos c]; rfl
  · rw [if_neg (show ¬ nI t ≤ 0 by rw [show (0 : Int32) = nI 0 from rfl, nN_le ht (by omega)]; omega), if_neg c]
end Bv
