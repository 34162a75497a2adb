
/-! ===== read: spans, the reference ===== -/
section Sm
variable {g h k : zS} {tn : Nat} {tb : Nat → Nat} {s p : Nat} {P : zPl} {N : Nat} {r : Nat → Nat}
theorem dg_te {lo hi t : Nat} (d : dgO tn tb t lo hi) : t < tn ∧ te tn tb t = t + 1 := ⟨d.2.1, by have := d.1; have := d.2.1; omega⟩
theorem te_sign (hb : ∀ k, k < tn → tb k < 256) {t x : Nat} (hx : x < 256) (h1 : isLt x = false) (h2 : isDg x = false) (h : chr tn tb t = nI x) : t < tn ∧ te tn tb t = t + 1 := by
  have ht : t < tn := Decidable.byContradiction fun q => by
    rw [chr_out q, nI_m1] at h
    exact (nN_eqm (by omega)).mp h.symm
  have h256 := hb t ht
  have e : tb t = x := by
    rw [chr_in ht] at h
    exact (nN_eq (by omega) (by omega)).mp h
  refine ⟨ht, ?_⟩
  unfold te
  rw [if_pos ht, e, h1, h2, if_neg (by decide), if_neg (by decide)]
theorem m_span68 (hX : rdX tn tb p g) {a1 : Int32} {m v u : Nat} (hv : v ≤ u) (hu : u < 10) : (g.1 42 5 = -1 → ∃ h, wh (wX11_spans_68 a1 (nI u) g) (nI m, nI v) = some (.inl (nI (spM m v u), (if chr tn tb (sk tn tb p) = 44 then 1 else 0), h)) ∧ rdX tn tb (if chr tn tb (sk tn tb p) = 44 then sk tn tb p + 1 else sk tn tb p) h ∧ mw wP4 g h) ∧ (g.1 42 5 ≠ -1 → wh (wX11_spans_68 a1 (nI u) g) (nI m, nI v) = some (.inl (nI (spM m v u), 0, g))) := by
  have go : ∀ o, wX11_spans_68 a1 (nI u) g (nI (spM m v u), nI (u + 1)) = some (.inr o) → wh (wX11_spans_68 a1 (nI u) g) (nI m, nI v) = some o := fun o ho => by
    have key : wh (wX11_spans_68 a1 (nI u) g) (nI (m ||| (2 ^ (v + 0) - 2 ^ v)), nI (v + 0)) = some o := by
      refine wh_seq (fun j => (nI (m ||| (2 ^ (v + j) - 2 ^ v)), nI (v + j))) (u + 1 - v) (fun j hj => ?_) ?_
      · dsimp only [wX11_spans_68]
        rw [if_neg (fun e => by rw [nN_lt (by omega) (by omega)] at e; omega), nI_shl (by omega), nI_or, sp_or (by omega) (by omega), nI_s]
        rfl
      · rw [show v + (u + 1 - v) = u + 1 by omega]
        exact ho
    rw [Nat.add_zero, Nat.sub_self, Nat.or_zero] at key
    exact key
  constructor
  · intro h5
    obtain ⟨h, w, a, b⟩ := m_here hX
    have hsk := sk_le (tb := tb) hX.2.2.1
    by_cases q : chr tn tb (sk tn tb p) = 44
    · have hq := chr_in2 q (by decide)
      rw [if_pos q, if_pos q]
      refine ⟨zi h 42 4 (nI (sk tn tb p + 1)), go _ ?_, rdX_mv a (by omega), mw_tr b (mw_zi ⟨rfl, rfl⟩ _ _)⟩
      unfold wX11_spans_68
      dsimp only
      rw [if_pos ((nN_lt (by omega) (by omega)).mpr (by omega)), if_pos h5, w, Option.bind_some]
      dsimp only
      rw [if_pos q]
      unfold jX11_spans_110
      rw [if_neg n01, a.2.1, nI_s]
      rfl
    · rw [if_neg q, if_neg q]
      refine ⟨h, go _ ?_, a, b⟩
      unfold wX11_spans_68
      dsimp only
      rw [if_pos ((nN_lt (by omega) (by omega)).mpr (by omega)), if_pos h5, w, Option.bind_some]
      dsimp only
      rw [if_neg q]
      unfold jX11_spans_109 jX11_spans_110
      rw [if_pos rfl]
      rfl
  · intro h5
    refine go _ ?_
    unfold wX11_spans_68
    dsimp only
    rw [if_pos ((nN_lt (by omega) (by omega)).mpr (by omega)), if_neg h5]
    unfold jX11_spans_109 jX11_spans_110
    rw [if_pos rfl]
    rfl
theorem sp_end {a1 m : Int32} (z : zS) : wh (wX11_spans_4 a1) (m, (0 : Int32), z) = some (m, z) := by
  refine wh_out ?_
  unfold wX11_spans_4
  rw [if_pos rfl]
  rfl
theorem m_spans4 {hi : Nat} (hhi : hi ≤ 9) : ∀ k t p m (g : zS), rdX tn tb p g → sk tn tb p = t → tn - t < k → g.1 42 5 = -1 → (∀ t' m', spR tn tb hi k t m = .inl (t', m') → ∃ h p', wh (wX11_spans_4 (nI hi)) (nI m, (1 : Int32), g) = some (nI m', h) ∧ rdX tn tb p' h ∧ sk tn tb p' = t' ∧ h.1 42 5 = -1 ∧ mw wP45 g h) ∧ (∀ t', spR tn tb hi k t m = .inr t' → ∃ x h, wh (wX11_spans_4 (nI hi)) (nI m, (1 : Int32), g) = some (x, h) ∧ h.1 42 5 = nI t' ∧ mw wP45 g h) := by
  have w45 : ∀ {a b : zS}, mw wP4 a b → mw wP45 a b := fun q => mw_le (fun c k q => by unfold wP4 at q; unfold wP45; omega) q
  intro k
  induction k with
  | zero => intro t p m g _ _ hk; omega
  | succ k ih =>
    intro t p m g hX hp hk h5
    have ht400 := hX.1.2.2.1
    have hb : ∀ j, j < tn → tb j < 256 := hX.1.2.2.2
    obtain ⟨n1, n2⟩ := m_digit (lo := 0) (hi := hi) hX h5 (by omega) hhi
    rw [hp] at n1 n2
    have pre : ∀ v z, nX11_digit (0 : Int32) (nI hi) g = some (v, z) → wX11_spans_4 (nI hi) (nI m, (1 : Int32), g) = if (z.1 42 5) = (-1 : Int32) then ((nX11_here z).bind fun v3 => if v3.1 = (45 : Int32) then ((nX11_digit v (nI hi) (zi v3.2 42 4 ((v3.2.1 42 4) + (1 : Int32)))).bind fun v4 => wh (wX11_spans_68 (nI hi) v4.1 v4.2) (nI m, v)) else (wh (wX11_spans_68 (nI hi) v v3.2) (nI m, v))) else (wh (wX11_spans_68 (nI hi) v z) (nI m, v)) := fun v z e => by
      unfold wX11_spans_4
      dsimp only
      rw [if_neg n01, if_pos h5, e, Option.bind_some]
    unfold spR
    by_cases d : dgO tn tb t 0 hi
    · rw [if_pos d]
      obtain ⟨g2, w2, c1, c2⟩ := n1 d
      obtain ⟨ht, hte⟩ := dg_te d
      rw [hte]
      have h52 : g2.1 42 5 = -1 := by rw [c2.1 42 5 (by unfold wP4; omega)]; exact h5
      have hv9 : tb t - 48 ≤ hi := by have := d.2.2.2; omega
      obtain ⟨g3, w3, d1, d2⟩ := m_here c1
      have h53 : g3.1 42 5 = -1 := by rw [d2.1 42 5 (by unfold wP4; omega)]; exact h52
      have hsk := sk_le (tb := tb) c1.2.2.1
      have base := pre _ _ w2
      rw [if_pos h52, w3, Option.bind_some] at base
      dsimp only at base
      by_cases q : chr tn tb (sk tn tb (t + 1)) = 45
      · rw [if_pos q]
        obtain ⟨q1, q2⟩ := te_sign hb (x := 45) (by omega) (by decide) (by decide) q
        rw [q2]
        rw [if_pos q, d1.2.1, nI_s] at base
        have zX : rdX tn tb (sk tn tb (t + 1) + 1) (zi g3 42 4 (nI (sk tn tb (t + 1) + 1))) := rdX_mv d1 (by omega)
        have zm : mw wP4 g3 (zi g3 42 4 (nI (sk tn tb (t + 1) + 1))) := mw_zi ⟨rfl, rfl⟩ _ _
        have z5 : (zi g3 42 4 (nI (sk tn tb (t + 1) + 1))).1 42 5 = -1 := by rw [zi_else _ _ (by omega)]; exact h53
        obtain ⟨y1, y2⟩ := m_digit (lo := tb t - 48) (hi := hi) zX z5 (by omega) hhi
        have hfr3 : mw wP45 g (zi g3 42 4 (nI (sk tn tb (t + 1) + 1))) := mw_tr (w45 c2) (mw_tr (w45 d2) (w45 zm))
        by_cases e : dgO tn tb (sk tn tb (sk tn tb (t + 1) + 1)) (tb t - 48) hi
        · rw [if_pos e]
          obtain ⟨g4, w4, f1, f2⟩ := y1 e
          obtain ⟨e1, e2⟩ := dg_te e
          rw [e2]
          have h54 : g4.1 42 5 = -1 := by rw [f2.1 42 5 (by unfold wP4; omega)]; exact z5
          have hu9 : tb (sk tn tb (sk tn tb (t + 1) + 1)) - 48 ≤ hi := by have := e.2.2.2; omega
          have huv : tb t - 48 ≤ tb (sk tn tb (sk tn tb (t + 1) + 1)) - 48 := by have := e.2.2.1; omega
          rw [w4, Option.bind_some] at base
          dsimp only at base
          obtain ⟨g5, w5, x1, x2⟩ := (m_span68 (a1 := nI hi) (m := m) f1 huv (by omega)).1 h54
          rw [w5] at base
          have hfr : mw wP45 g g5 := mw_tr hfr3 (mw_tr (w45 f2) (w45 x2))
          have h55 : g5.1 42 5 = -1 := by rw [x2.1 42 5 (by unfold wP4; omega)]; exact h54
          have hs5 := sk_le (tb := tb) f1.2.2.1
          unfold spA
          by_cases q3 : chr tn tb (sk tn tb (sk tn tb (sk tn tb (t + 1) + 1) + 1)) = 44
          · obtain ⟨q4, q5⟩ := te_sign hb (x := 44) (by omega) (by decide) (by decide) q3
            rw [if_pos q3, q5]
            rw [if_pos q3] at base x1
            rw [wh_in base]
            have hs6 := sk_le (tb := tb) x1.2.2.1
            have hs7 := sk_le (tb := tb) zX.2.2.1
            obtain ⟨i1, i2⟩ := ih _ _ _ g5 x1 rfl (by omega) h55
            refine ⟨fun t' m' e => ?_, fun t' e => ?_⟩
            · obtain ⟨h, p', w, r1, r2, r3, r4⟩ := i1 t' m' e
              exact ⟨h, p', w, r1, r2, r3, mw_tr hfr r4⟩
            · obtain ⟨x, h, w, r1, r4⟩ := i2 t' e
              exact ⟨x, h, w, r1, mw_tr hfr r4⟩
          · rw [if_neg q3]
            rw [if_neg q3] at base x1
            rw [wh_in base, sp_end]
            refine ⟨fun t' m' e => ?_, fun t' e => (by cases e)⟩
            have e1 := congrArg Prod.fst (Sum.inl.inj e)
            have e2 := congrArg Prod.snd (Sum.inl.inj e)
            dsimp only at e1 e2
            subst e1 e2
            exact ⟨g5, _, rfl, x1, sk_sk f1.2.2.1, h55, hfr⟩
        · rw [if_neg e]
          obtain ⟨g4, w4, f1, f3, f2⟩ := y2 e
          rw [w4, Option.bind_some] at base
          dsimp only at base
          have h54 : g4.1 42 5 ≠ -1 := fun e => by
            have := (sk_le (tb := tb) zX.2.2.1).2
            rw [f3, nI_m1, nN_eqm (by omega)] at e
            exact e
          rw [(m_span68 (a1 := nI hi) (m := m) f1 (Nat.le_refl (tb t - 48)) (by omega)).2 h54] at base
          rw [wh_in base, sp_end]
          refine ⟨fun t' m' e => (by cases e), fun t' e => ?_⟩
          have e1 := Sum.inr.inj e
          subst e1
          exact ⟨_, g4, rfl, f3, mw_tr hfr3 f2⟩
      · rw [if_neg q]
        rw [if_neg q] at base
        obtain ⟨g5, w5, x1, x2⟩ := (m_span68 (a1 := nI hi) (m := m) d1 (Nat.le_refl (tb t - 48)) (by omega)).1 h53
        rw [sk_sk c1.2.2.1] at w5 x1
        rw [w5] at base
        have hfr : mw wP45 g g5 := mw_tr (w45 c2) (mw_tr (w45 d2) (w45 x2))
        have h55 : g5.1 42 5 = -1 := by rw [x2.1 42 5 (by unfold wP4; omega)]; exact h53
        unfold spA
        by_cases q3 : chr tn tb (sk tn tb (t + 1)) = 44
        · obtain ⟨q4, q5⟩ := te_sign hb (x := 44) (by omega) (by decide) (by decide) q3
          rw [if_pos q3, q5]
          rw [if_pos q3] at base x1
          rw [wh_in base]
          have hs6 := sk_le (tb := tb) x1.2.2.1
          obtain ⟨i1, i2⟩ := ih _ _ _ g5 x1 rfl (by omega) h55
          refine ⟨fun t' m' e => ?_, fun t' e => ?_⟩
          · obtain ⟨h, p', w, r1, r2, r3, r4⟩ := i1 t' m' e
            exact ⟨h, p', w, r1, r2, r3, mw_tr hfr r4⟩
          · obtain ⟨x, h, w, r1, r4⟩ := i2 t' e
            exact ⟨x, h, w, r1, mw_tr hfr r4⟩
        · rw [if_neg q3]
          rw [if_neg q3] at base x1
          rw [wh_in base, sp_end]
          refine ⟨fun t' m' e => ?_, fun t' e => (by cases e)⟩
          have e1 := congrArg Prod.fst (Sum.inl.inj e)
          have e2 := congrArg Prod.snd (Sum.inl.inj e)
          dsimp only at e1 e2
          subst e1 e2
          exact ⟨g5, _, rfl, x1, sk_sk c1.2.2.1, h55, hfr⟩
    · rw [if_neg d]
      obtain ⟨g2, w2, c1, c3, c2⟩ := n2 d
      have base := pre _ _ w2
      have h52 : g2.1 42 5 ≠ -1 := fun e => by
        have := (sk_le (tb := tb) hX.2.2.1).2
        rw [c3, nI_m1, nN_eqm (by omega)] at e
        exact e
      rw [if_neg h52, show (nI m, nI 0) = (nI m, nI 0) from rfl, (m_span68 (a1 := nI hi) (m := m) c1 (Nat.le_refl 0) (by omega)).2 h52] at base
      rw [wh_in base, sp_end]
      refine ⟨fun t' m' e => (by cases e), fun t' e => ?_⟩
      have e1 := Sum.inr.inj e
      subst e1
      exact ⟨_, g2, rfl, c3, c2⟩
end Sm
