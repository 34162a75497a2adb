
/-! ===== read: spans ===== -/
section Sp
variable {g h k : zS} {tn : Nat} {tb : Nat → Nat} {s p : Nat} {P : zPl} {N : Nat} {r : Nat → Nat}
/-- the values from v to u -/
def spM (m v u : Nat) : Nat := m ||| (2 ^ (u + 1) - 2 ^ v)
/-- behind a span -/
noncomputable def spA (tn : Nat) (tb : Nat → Nat) (rc : Nat → Nat → (Nat × Nat) ⊕ Nat) (v u t m : Nat) : (Nat × Nat) ⊕ Nat := if chr tn tb t = 44 then rc (sk tn tb (te tn tb t)) (spM m v u) else .inl (t, spM m v u)
/-- spans from the token t on: the token behind, the values; or the token that is wrong -/
noncomputable def spR (tn : Nat) (tb : Nat → Nat) (hi : Nat) : Nat → Nat → Nat → (Nat × Nat) ⊕ Nat
  | 0, t, _ => .inr t
  | k + 1, t, m => @ite _ (dgO tn tb t 0 hi) (Classical.propDecidable _) (if chr tn tb (sk tn tb (te tn tb t)) = 45 then @ite _ (dgO tn tb (sk tn tb (te tn tb (sk tn tb (te tn tb t)))) (tb t - 48) hi) (Classical.propDecidable _) (spA tn tb (spR tn tb hi k) (tb t - 48) (tb (sk tn tb (te tn tb (sk tn tb (te tn tb t)))) - 48) (sk tn tb (te tn tb (sk tn tb (te tn tb (sk tn tb (te tn tb t)))))) m) (.inr (sk tn tb (te tn tb (sk tn tb (te tn tb t))))) else spA tn tb (spR tn tb hi k) (tb t - 48) (tb t - 48) (sk tn tb (te tn tb t)) m) (.inr t)
theorem sp_shl {u : Nat} (h : u < 10) : (2 : Int32) <<< (nI u &&& 31) = nI (2 ^ (u + 1)) := by
  have : ∀ u, u < 10 → (2 : Int32) <<< (nI u &&& 31) = nI (2 ^ (u + 1)) := by decide
  exact this u h
theorem sp_or {m v j : Nat} (h : v ≤ j) (hj : j < 11) : (m ||| (2 ^ j - 2 ^ v)) ||| 2 ^ j = m ||| (2 ^ (j + 1) - 2 ^ v) := by
  have : ∀ j, j < 11 → ∀ v, v < 11 → v ≤ j → (2 ^ j - 2 ^ v) ||| 2 ^ j = 2 ^ (j + 1) - 2 ^ v := by decide
  rw [Nat.or_assoc, this j hj v (by omega) h]
theorem sp_pos {m v u : Nat} (h : v ≤ u) : spM m v u ≠ 0 := by
  intro e
  have h1 : 2 ^ v < 2 ^ (u + 1) := Nat.pow_lt_pow_right (by omega) (by omega)
  have h2 : 2 ^ (u + 1) - 2 ^ v ≤ spM m v u := Nat.right_le_or
  omega
theorem sp_lt {m v u hi : Nat} (hm : m < 2 ^ (hi + 1)) (hu : u ≤ hi) : spM m v u < 2 ^ (hi + 1) := by
  have h1 : 2 ^ (u + 1) ≤ 2 ^ (hi + 1) := Nat.pow_le_pow_right (by omega) (by omega)
  have h0 : 0 < 2 ^ v := Nat.pow_pos (by omega)
  exact Nat.or_lt_two_pow hm (by omega)
theorem tok_gt (ht : s < tn) : s < sk tn tb (te tn tb s) ∧ sk tn tb (te tn tb s) ≤ tn := by
  have h1 := te_le (tb := tb) (Nat.le_of_lt ht)
  have h2 := sk_le (tb := tb) h1.2.1
  omega
theorem chr_in2 {x : Int32} (h : chr tn tb s = x) (hx : x ≠ -1) : s < tn := Decidable.byContradiction fun q => hx (by rw [← h, chr_out q])
theorem e_span66 (hA : tkA tn tb s g) {hi v u m c : Nat} (hu : u < 10) (hv : v ≤ u) : (chr tn tb s = 44 → jX7_readSpans_66 (nI hi) (nI m) (nI c) (nI v) (nI u) g = some (.inl (nI (spM m v u), nI (c + 1), g))) ∧ (chr tn tb s ≠ 44 → jX7_readSpans_66 (nI hi) (nI m) (nI c) (nI v) (nI u) g = some (.inr (nI (spM m v u), g))) := by
  have hm : nI m ||| (((2 : Int32) <<< (nI u &&& 31)) - ((1 : Int32) <<< (nI v &&& 31))) = nI (spM m v u) := by
    have h1 : 2 ^ v ≤ 2 ^ (u + 1) := Nat.pow_le_pow_right (by omega) (by omega)
    rw [sp_shl hu, nI_shl (by omega), nI_sub h1, nI_or]
    rfl
  unfold jX7_readSpans_66
  rw [if_neg (fun e => by rw [nI_m1, nN_eqm (by omega)] at e; exact e), e_isSign hA, Option.bind_some, hm, nI_s]
  constructor
  · intro q
    rw [if_pos q, if_neg n01]
  · intro q
    rw [if_neg q, if_pos rfl]
    rfl
theorem e_spans17 {hi : Nat} (hhi : hi ≤ 9) : ∀ k t0 c m (g : zS), tkA tn tb t0 g → t0 < tn → tn - t0 < k → c ≤ t0 → m < 2 ^ (hi + 1) → (∀ t' m', spR tn tb hi k (sk tn tb (te tn tb t0)) m = .inl (t', m') → ∃ h, wh (wX7_readSpans_17 (nI hi)) (nI m, nI c, g) = some (nI m', h) ∧ tkA tn tb t' h ∧ m' ≠ 0 ∧ m' < 2 ^ (hi + 1) ∧ mw wT2 g h) ∧ (∀ t', spR tn tb hi k (sk tn tb (te tn tb t0)) m = .inr t' → ∃ h, wh (wX7_readSpans_17 (nI hi)) (nI m, nI c, g) = some (0, h) ∧ tkA tn tb t' h ∧ mw wT2 g h) := by
  intro k
  induction k with
  | zero => intro t0 c m g _ _ hk; omega
  | succ k ih =>
    intro t0 c m g hA ht0 hk hc hm
    have t2 := hA.1.2.1
    obtain ⟨g1, w1, b1, b2⟩ := e_nextA hA
    have hg1 := tok_gt (tb := tb) ht0
    obtain ⟨t, et⟩ : ∃ t, t = sk tn tb (te tn tb t0) := ⟨_, rfl⟩
    rw [← et] at b1 hg1 ⊢
    obtain ⟨n1, n2⟩ := e_takeNumber (lo := 0) (hi := hi) b1 (by omega) hhi
    have pre : ∀ v z, nX7_takeNumber (0 : Int32) (nI hi) g1 = some (v, z) → wX7_readSpans_17 (nI hi) (nI m, nI c, g) = if v = (-1 : Int32) then (zex (some (((0 : Int32), z)))) else ((nX7_takes (45 : Int32) z).bind fun v3 => if v3.1 = 0 then (jX7_readSpans_66 (nI hi) (nI m) (nI c) v v v3.2) else ((nX7_takeNumber v (nI hi) v3.2).bind fun v5 => jX7_readSpans_66 (nI hi) (nI m) (nI c) v v5.1 v5.2)) := fun v z e => by
      unfold wX7_readSpans_17
      dsimp only
      rw [if_neg (show ¬ (400 : Int32) ≤ nI c from fun e => by have := (nN_le (a := 400) (by omega) (by omega)).mp e; omega), w1, Option.bind_some, e, Option.bind_some]
    unfold spR
    by_cases d : dgO tn tb t 0 hi
    · rw [if_pos d]
      obtain ⟨g2, w2, c1, c2⟩ := n1 d
      have hv9 : tb t - 48 ≤ hi := by have := d.2.2.2; omega
      have hg2 := tok_gt (tb := tb) d.2.1
      obtain ⟨x1, x2⟩ := e_takes c1 (45 : Int32)
      have hvn : ¬ nI (tb t - 48) = -1 := fun e => by rw [nI_m1, nN_eqm (by omega)] at e; exact e
      have base := pre _ _ w2
      rw [if_neg hvn] at base
      by_cases q : chr tn tb (sk tn tb (te tn tb t)) = 45
      · rw [if_pos q]
        obtain ⟨g3, w3, d1, d2⟩ := x1 q
        have hq := chr_in2 q (by decide)
        have hg3 := tok_gt (tb := tb) hq
        rw [w3, Option.bind_some, if_neg n01] at base
        obtain ⟨y1, y2⟩ := e_takeNumber (lo := tb t - 48) (hi := hi) d1 (by omega) hhi
        by_cases e : dgO tn tb (sk tn tb (te tn tb (sk tn tb (te tn tb t)))) (tb t - 48) hi
        · rw [if_pos e]
          obtain ⟨g4, w4, f1, f2⟩ := y1 e
          have hu9 : tb (sk tn tb (te tn tb (sk tn tb (te tn tb t)))) - 48 ≤ hi := by have := e.2.2.2; omega
          have huv : tb t - 48 ≤ tb (sk tn tb (te tn tb (sk tn tb (te tn tb t)))) - 48 := by have := e.2.2.1; omega
          have hg4 := tok_gt (tb := tb) e.2.1
          obtain ⟨z1, z2⟩ := e_span66 (hi := hi) (m := m) (c := c) f1 (show tb (sk tn tb (te tn tb (sk tn tb (te tn tb t)))) - 48 < 10 by omega) huv
          have hfr : mw wT2 g g4 := mw_tr b2 (mw_tr c2 (mw_tr d2 f2))
          rw [w4, Option.bind_some] at base
          unfold spA
          by_cases q2 : chr tn tb (sk tn tb (te tn tb (sk tn tb (te tn tb (sk tn tb (te tn tb t)))))) = 44
          · have hq2 := chr_in2 q2 (by decide)
            rw [if_pos q2]
            rw [z1 q2] at base
            rw [wh_in base]
            obtain ⟨i1, i2⟩ := ih _ (c + 1) _ g4 f1 hq2 (by omega) (by omega) (sp_lt (v := tb t - 48) hm hu9)
            refine ⟨fun t' m' e => ?_, fun t' e => ?_⟩
            · obtain ⟨h, w, r1, r2, r3, r4⟩ := i1 t' m' e
              exact ⟨h, w, r1, r2, r3, mw_tr hfr r4⟩
            · obtain ⟨h, w, r1, r4⟩ := i2 t' e
              exact ⟨h, w, r1, mw_tr hfr r4⟩
          · rw [if_neg q2]
            rw [z2 q2] at base
            refine ⟨fun t' m' e => ?_, fun t' e => (by cases e)⟩
            have e1 := congrArg Prod.fst (Sum.inl.inj e)
            have e2 := congrArg Prod.snd (Sum.inl.inj e)
            dsimp only at e1 e2
            subst e1 e2
            exact ⟨g4, wh_out base, f1, sp_pos huv, sp_lt hm hu9, hfr⟩
        · rw [if_neg e]
          rw [y2 e, Option.bind_some] at base
          refine ⟨fun t' m' e => (by cases e), fun t' e => ?_⟩
          have e1 := Sum.inr.inj e
          subst e1
          have b66 : jX7_readSpans_66 (nI hi) (nI m) (nI c) (nI (tb t - 48)) (-1) g3 = some (.inr (0, g3)) := by
            unfold jX7_readSpans_66
            rw [if_pos rfl]
            rfl
          dsimp only at base
          rw [b66] at base
          exact ⟨g3, wh_out base, d1, mw_tr b2 (mw_tr c2 d2)⟩
      · rw [if_neg q]
        rw [x2 q, Option.bind_some, if_pos rfl] at base
        obtain ⟨z1, z2⟩ := e_span66 (hi := hi) (m := m) (c := c) c1 (show tb t - 48 < 10 by omega) (Nat.le_refl (tb t - 48))
        have hfr : mw wT2 g g2 := mw_tr b2 c2
        unfold spA
        by_cases q2 : chr tn tb (sk tn tb (te tn tb t)) = 44
        · have hq2 := chr_in2 q2 (by decide)
          rw [if_pos q2]
          rw [z1 q2] at base
          rw [wh_in base]
          obtain ⟨i1, i2⟩ := ih _ (c + 1) _ g2 c1 hq2 (by omega) (by omega) (sp_lt (v := tb t - 48) hm hv9)
          refine ⟨fun t' m' e => ?_, fun t' e => ?_⟩
          · obtain ⟨h, w, r1, r2, r3, r4⟩ := i1 t' m' e
            exact ⟨h, w, r1, r2, r3, mw_tr hfr r4⟩
          · obtain ⟨h, w, r1, r4⟩ := i2 t' e
            exact ⟨h, w, r1, mw_tr hfr r4⟩
        · rw [if_neg q2]
          rw [z2 q2] at base
          refine ⟨fun t' m' e => ?_, fun t' e => (by cases e)⟩
          have e1 := congrArg Prod.fst (Sum.inl.inj e)
          have e2 := congrArg Prod.snd (Sum.inl.inj e)
          dsimp only at e1 e2
          subst e1 e2
          exact ⟨g2, wh_out base, c1, sp_pos (Nat.le_refl _), sp_lt hm hv9, hfr⟩
    · rw [if_neg d]
      have base := pre _ _ (n2 d)
      rw [if_pos rfl] at base
      refine ⟨fun t' m' e => (by cases e), fun t' e => ?_⟩
      have e1 := Sum.inr.inj e
      subst e1
      exact ⟨g1, wh_out base, b1, b2⟩
end Sp
