
/-! ===== the step of read ===== -/
section S2
variable {S S' : zSt} {g h k : zS} {P : zPl} {W : Nat → Nat → Prop}
theorem mw_frK {K : Nat → Bool} (q : ∀ c k, W c k → K c = true) (a : mw W g h) : fr K g h := ⟨fun c hc => ⟨funext fun k => a.1 c k (fun w => by rw [q c k w] at hc; cases hc), by rw [a.2]⟩, by rw [a.2]; exact id, by rw [a.2]⟩
def kTx (c : Nat) : Bool := decide (c ≤ 1) || (decide (11 ≤ c) && decide (c ≤ 19))
theorem kTx_C : ∀ c k, wCl c k → kTx c = true := fun c k q => by
  have hc : 11 ≤ c ∧ c ≤ 19 := by
    rcases q with q | q | q
    · unfold wCr at q; omega
    · omega
    · omega
  unfold kTx
  rw [decide_eq_true hc.1, decide_eq_true hc.2, Bool.and_self, Bool.or_true]
theorem wCl_0 : ¬ wCl 0 11 := fun w => by
  rcases w with w | w | w
  · unfold wCr at w; omega
  · omega
  · omega
theorem kN_T : ∀ c, kN c = false → kTx c = false := fun c hc => by
  unfold kN at hc
  rw [Bool.or_eq_false_iff, decide_eq_false_iff_not] at hc
  unfold kTx
  rw [Bool.or_eq_false_iff, Bool.and_eq_false_iff, decide_eq_false_iff_not, decide_eq_false_iff_not, decide_eq_false_iff_not]
  omega
theorem kN_F : ∀ c, kN c = false → kFi c = false := fun c hc => by
  unfold kN at hc
  rw [Bool.or_eq_false_iff, decide_eq_false_iff_not] at hc
  unfold kFi
  rw [Bool.or_eq_false_iff, Bool.or_eq_false_iff, Bool.or_eq_false_iff, Bool.and_eq_false_iff, Bool.and_eq_false_iff, decide_eq_false_iff_not, decide_eq_false_iff_not, decide_eq_false_iff_not, decide_eq_false_iff_not, beq_eq_false_iff_ne, beq_eq_false_iff_ne]
  omega
/-- the tape is empty again, the fault is told -/
def tzr (g : zS) (x : Int32) : zS := zi (zi g 1 1 (0 : Int32)) 0 12 x
theorem tzr_fr (g : zS) (x : Int32) : fr (fun c => decide (c ≤ 1)) g (tzr g x) := fr_tr (fr_zi (c := 1) rfl _ _ _) (fr_zi (c := 0) rfl _ _ _)
theorem tzr_c (g : zS) (x : Int32) {c : Nat} (h : 2 ≤ c) : (tzr g x).1 c = g.1 c := by
  unfold tzr
  rw [zi_cell _ _ (by omega), zi_cell _ _ (by omega)]
theorem tzr_11 (g : zS) (x : Int32) : (tzr g x).1 0 11 = g.1 0 11 := by
  unfold tzr
  rw [zi_else _ _ (by decide), zi_else _ _ (by decide)]
theorem tzr_12 (g : zS) (x : Int32) : (tzr g x).1 0 12 = x := zi_at _ _ _ _
theorem tzr_1 (g : zS) (x : Int32) : (tzr g x).1 1 1 = 0 := by
  unfold tzr
  rw [zi_else _ _ (by decide), zi_at]
theorem le_Tx {g h : zS} (a : fr (fun c => decide (c ≤ 1)) g h) : fr kTx g h := fr_le (fun c hc => by
  unfold kTx at hc
  rw [Bool.or_eq_false_iff] at hc
  exact hc.1) a
theorem fI_le {t : Nat} (h : t ≤ 400) : fI t = nI t := by
  unfold fI
  rw [if_neg (by omega)]
theorem s_2 (a : Nat → Int32) (hv : Iv g) : ∃ r, nS_2 a g = some r ∧ Iv r := by
  obtain ⟨S, hc, hm⟩ := hv
  obtain ⟨hO, hPn, hRw, hT, hWr, hFl, hB⟩ := id hc
  have hG : g.2.2.1 ≤ 1 := hPn.2.2.2.2.2
  have hlen : 64 ≤ g.2.2.2 ∧ g.2.2.2 ≤ 2097152 := by
    rcases hB with ⟨_, x, y⟩ | ⟨_, x⟩
    · exact ⟨x, y⟩
    · exact ⟨x.2.2.1, x.2.2.2.1⟩
  have t4 := hT.2.1
  unfold nS_2
  rcases rd_text hT with ⟨P', N', r', ⟨p1, p2, p3⟩, ⟨h1, w1, c1, d1, f1⟩, ref⟩ | ⟨t', ht, ⟨h1, w1, a1, f1⟩, ref⟩
  · have fT : fr kTx g h1 := mw_frK kTx_C f1.1
    have hb1 : bt15 h1 := f1.2 hWr.2.2.2
    refine st_v (S := S) (S' := (P', (N', r', 0, fun _ => 0, fun _ _ => 0), 0, S.2.2.2.1, S.2.2.2.2.1, S.2.2.2.2.2.1, 999)) (L := nL_read) (M := nX11_read) (cd := 0) (an := nI N') hm ?_ ?_
    · have fz := tzr_fr h1 (-1)
      have hbz : bt15 (tzr h1 (-1)) := fun i hi => by rw [tzr_c _ _ (by omega)]; exact hb1 i hi
      have dz : cDf P' N' r' (tzr h1 (-1)) := cDf_mw (W := fun c _ => c ≤ 1) (fun c k q => by omega) ⟨fun c k q => by rw [tzr_c _ _ (by omega)], rfl⟩ d1
      have gz : (tzr h1 (-1)).2.2.1 ≤ 1 := fz.2.1 (fT.2.1 hG)
      have lz : (tzr h1 (-1)).2.2.2 = g.2.2.2 := by rw [fz.2.2, fT.2.2]
      obtain ⟨q, w2, b1, b2, b3, b4⟩ := e_finish p1 p3 dz hbz gz (by rw [lz]; exact hlen)
      have fAll : fr kN g q := fr_tr (fr_le kN_T fT) (fr_tr (fr_le kN_T (le_Tx fz)) (fr_le kN_F b4))
      have ec : ∀ c, 2 ≤ c → kTx c = false → kFi c = false → q.1 c = g.1 c := fun c h2 k1 k2 => by rw [(b4.1 c k2).1, tzr_c _ _ h2, (fT.1 c k1).1]
      refine cV_ls (X := nX10_read) (h := q) (w := nI N') ?_ fAll ?_
      · unfold nX10_read nX7_place
        rw [w1, Option.bind_some, Option.bind_some, if_neg n01]
        exact w2
      · refine ⟨p1, b1, b2, ⟨?_, Nat.zero_le _, fun i hi => absurd hi (Nat.not_lt_zero i)⟩, ⟨?_, hWr.2.1, fun i hi => ?_, fun i hi => ?_⟩, ?_, b3⟩
        · rw [(b4.1 1 rfl).1, tzr_1]; rfl
        · rw [(b4.1 0 rfl).1, tzr_11, (show h1.1 0 11 = g.1 0 11 from f1.1.1 0 11 wCl_0)]
          exact hWr.1
        · rw [ec 41 (by omega) rfl rfl]
          exact hWr.2.2.1 i hi
        · rw [(b4.1 15 rfl).1]
          exact hbz i hi
        · rw [(b4.1 0 rfl).1, tzr_12]
          rfl
    · intro k hk
      obtain ⟨q1, ⟨q2, q3⟩, q4, q5, q6⟩ := hk
      obtain ⟨y, v1, v2, v3, v4, v5⟩ := ref k q4
      have e : ∀ c i, ¬ wRx c i → y.1 c i = k.1 c i := v5.1
      have nW : ∀ c i, c ≠ 42 → (c < 44 ∨ 49 < c) → ¬ wRx c i := fun c i h1 h2 w => by unfold wRx wRd at w; omega
      obtain ⟨x, u1, u2, u3, u4, u5, u6, u7, u8, u9, u10⟩ := m_finish p1 d1.2.2.2.2.2.2.2.2.2.1 (fun i hi => (d1.2.2.2.2.2.2.2.2.2.2 i hi).2) v4 v2 v3 (fun f hf => by rw [e 58 f (nW _ _ (by decide) (by omega))]; exact q1.1.2.2.2.2.2.2.2 f hf)
      refine ⟨x, nI N', v1 _ u1, fr_tr ⟨fun c hc => ?_, ?_, ?_⟩ u10, ⟨u2, ⟨u3, u4⟩, ⟨?_, fun i hi => absurd hi (Nat.not_lt_zero i)⟩, ⟨?_, fun i hi => ?_⟩, ?_⟩, u5, fun _ => rfl⟩
      · unfold kRf at hc
        rw [Bool.and_eq_false_iff, decide_eq_false_iff_not, decide_eq_false_iff_not] at hc
        exact ⟨funext fun i => e c i (fun w => by unfold wRx wRd at w; omega), v5.2.1 c (by omega)⟩
      · rw [v5.2.2]; exact id
      · rw [v5.2.2]
      · rw [u7]; rfl
      · rw [u8, e 42 46 (fun w => by unfold wRx wRd at w; omega)]; exact q5.1
      · rw [u9, e 71 i (nW _ _ (by decide) (by omega))]; exact q5.2 i hi
      · rw [u6]; rfl
  · have fT : fr kTx g h1 := mw_frK kTx_C f1.1
    have hb1 : bt15 h1 := f1.2 hWr.2.2.2
    refine st_v (S := S) (S' := (S.1, S.2.1, 0, S.2.2.2.1, S.2.2.2.2.1, S.2.2.2.2.2.1, t')) (L := nL_read) (M := nX11_read) (cd := 1) (an := 0) hm ?_ ?_
    · have fz := tzr_fr h1 (nI t')
      have fA : fr kTx g (tzr h1 (nI t')) := fr_tr fT (le_Tx fz)
      have ec : ∀ c, kTx c = false → (tzr h1 (nI t')).1 c = g.1 c := fun c hc => (fA.1 c hc).1
      refine ⟨tzr h1 (nI t'), ?_, fr_le kN_T fA, ⟨hO, cPn_fr (K := kTx) (fun c hc => ?_) fA hPn, cRw_eq (ec 31 rfl) (ec 32 rfl) (ec 33 rfl) hRw, ⟨by rw [tzr_1]; rfl, Nat.zero_le _, fun i hi => absurd hi (Nat.not_lt_zero i)⟩, ⟨?_, hWr.2.1, fun i hi => ?_, fun i hi => ?_⟩, ?_, bKn_eq (ec 26 rfl) (ec 27 rfl) fA.2.2 hB⟩, fun e => absurd e n01⟩
      · have w2 : nX10_read g = some (.inr "java/lang/IllegalArgumentException", tzr h1 (nI t')) := by
          unfold nX10_read nX7_place
          rw [w1, Option.bind_some, Option.bind_some, if_pos rfl]
          dsimp only
          rw [a1.2.2.1]
          rfl
        unfold nL_read
        rw [w2, Option.bind_some]
        unfold zel2
        dsimp only
        rw [if_pos rfl]
      · unfold kTx
        rw [Bool.or_eq_false_iff, Bool.and_eq_false_iff, decide_eq_false_iff_not, decide_eq_false_iff_not, decide_eq_false_iff_not]
        omega
      · rw [tzr_11, (show h1.1 0 11 = g.1 0 11 from f1.1.1 0 11 wCl_0)]
        exact hWr.1
      · rw [ec 41 rfl]
        exact hWr.2.2.1 i hi
      · rw [tzr_c _ _ (by omega)]
        exact hb1 i hi
      · rw [tzr_12]
        exact (fI_le (by omega)).symm
    · intro k hk
      obtain ⟨q1, ⟨q2, q3⟩, q4, q5, q6⟩ := id hk
      obtain ⟨y, v1, v2, v3, v5⟩ := ref k q4
      have out : jX11_read_189 1 y = some (0, zi y 42 0 (1 : Int32)) := by
        unfold jX11_read_189
        rw [zi_at, if_neg (show ¬ (1 : Int32) ≤ 0 by decide)]
      obtain ⟨x, ex⟩ : ∃ x, x = zi y 42 0 (1 : Int32) := ⟨_, rfl⟩
      rw [← ex] at out
      have mx : mw wRx k (x.1, k.2) := ⟨fun c i hc => by
        show x.1 c i = _
        rw [ex, zi_else _ _ (fun e => hc (by rw [e.1, e.2]; exact Or.inl (Or.inl ⟨rfl, Or.inl rfl⟩)))]
        exact v5.1 c i hc, rfl⟩
      have n2 : ∀ c i, wRx c i → ¬ (51 ≤ c ∧ c ≤ 54) ∧ ¬ (56 ≤ c ∧ c ≤ 59) ∧ (c = 42 → i ≠ 16 ∧ i ≠ 17 ∧ i ≠ 19 ∧ i ≠ 29) := fun c i w => by unfold wRx wRd at w; omega
      have key : rI (S.1, S.2.1, 0, S.2.2.2.1, S.2.2.2.2.1, S.2.2.2.2.2.1, t') (x.1, k.2) := by
        refine ⟨mPn_mw n2 mx q1, ⟨mR_mw (fun c i w => by unfold wRx wRd at w; omega) mx q2, mH_mw (fun c i w => by unfold wRx wRd at w; omega) mx q3⟩, ⟨?_, fun i hi => absurd hi (Nat.not_lt_zero i)⟩, mWr_mw (fun c i w => by unfold wRx wRd at w; omega) mx q5, ?_⟩
        · show x.1 42 2 = _
          rw [ex, zi_else _ _ (by decide), v3]; rfl
        · show x.1 42 5 = _
          rw [ex, zi_else _ _ (by decide), v2]
          exact (fI_le (by omega)).symm
      have x2 : x.2 = y.2 := by rw [ex]; rfl
      refine ⟨x, 0, v1 _ out, ⟨fun c hc => ?_, ?_, ?_⟩, rI_eq (g := (x.1, k.2)) (h := x) (fun c _ _ => rfl) ?_ key, by rw [ex, zi_at], fun e => absurd e n01⟩
      · unfold kRf at hc
        rw [Bool.and_eq_false_iff, decide_eq_false_iff_not, decide_eq_false_iff_not] at hc
        exact ⟨funext fun i => mx.1 c i (fun w => by unfold wRx wRd at w; omega), by rw [x2]; exact v5.2.1 c (by omega)⟩
      · rw [x2, v5.2.2]; exact id
      · rw [x2, v5.2.2]
      · show x.2.1 50 = k.2.1 50
        rw [x2]; exact v5.2.1 50 (by omega)
end S2
