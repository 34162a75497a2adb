
/-! ===== steps: cover, the reference ===== -/
section S28
variable {S S' : zSt} {g h k : zS} {P : zPl}
theorem m_cover79 (hBD : BD P) (hO : pOK P) (hM : mP P g) (hL : mL P 33554432 g) {i x c : Nat} (hi : i < nB P) (hx : x < 3125) (own b0 : Bool) : wh (wX11_cover_79 (nI i) (bI own) (nI c) (nI x) g) (bI b0, (0 : Int32)) = some (.inl (nI (if (b0 && !(own && otB P 5 i (vo x))) = true then c + 1 else c), nI (x + 1))) := by
  have hb : nB P ≤ 30000 := hBD 33554432 (Nat.le_refl _)
  have hn := (mL_n hBD hO hL).1
  have f127 : ∀ b : Bool, jX11_cover_127 (nI i) (bI own) (nI c) (nI x) (bI b) g = some (.inl (nI (if b = true then c + 1 else c), nI (x + 1))) := fun b => by
    unfold jX11_cover_127
    cases b with
    | true => rw [if_neg (show ¬ bI true = 0 by decide), if_pos rfl, nI_s, nI_s]
    | false => rw [if_pos (show bI false = 0 by decide), if_neg (by decide), Int32.add_zero, nI_s]
  have key : ∃ o, wh (wX11_cover_79 (nI i) (bI own) (nI c) (nI x) g) (bI b0, (0 : Int32)) = some o ∧ o = .inl (nI (if (b0 && !(own && otB P 5 i (vo x))) = true then c + 1 else c), nI (x + 1)) := by
    refine wh_post (fun t : Int32 × Int32 => ∃ o b, o ≤ nB P ∧ t = (bI b, nI o) ∧ (b = true → b0 = true ∧ (own = true → ∀ e, e < o → e ≠ i → ¬ inX P e x)) ∧ (b = false → b0 = false ∨ (own = true ∧ otB P 5 i (vo x) = true))) (fun t => nB P - t.2.toNatClampNeg) (fun (o : (Int32 × Int32) ⊕ (Int32 × zS)) => o = .inl (nI (if (b0 && !(own && otB P 5 i (vo x))) = true then c + 1 else c), nI (x + 1))) ?_ _ ⟨0, b0, Nat.zero_le _, rfl, fun e => ⟨e, fun _ e he => by omega⟩, fun e => Or.inl e⟩
    intro t ⟨o, b, ho, a1, a2, a3⟩
    have fin : (b = true → (own = false ∨ nB P ≤ o)) → ∃ q, (zex (jX11_cover_127 (nI i) (bI own) (nI c) (nI x) (bI b) g) : Option ((Int32 × Int32) ⊕ ((Int32 × Int32) ⊕ (Int32 × zS)))) = some (.inr q) ∧ q = .inl (nI (if (b0 && !(own && otB P 5 i (vo x))) = true then c + 1 else c), nI (x + 1)) := fun hw => by
      rw [f127]
      refine ⟨_, rfl, ?_⟩
      cases b with
      | true =>
        obtain ⟨e1, e2⟩ := a2 rfl
        have e3 : (own && otB P 5 i (vo x)) = false := by
          rw [Bool.and_eq_false_iff]
          rcases hw rfl with w | w
          · exact Or.inl w
          · cases ho2 : own with
            | false => exact Or.inl rfl
            | true =>
              refine Or.inr ?_
              rw [← Bool.not_eq_true]
              intro h
              unfold otB at h
              rw [dB_t] at h
              obtain ⟨e, h1, h2, h3⟩ := h
              exact e2 ho2 e (by omega) h2 h3
        rw [e1, e3]
        rfl
      | false =>
        have e3 : (b0 && !(own && otB P 5 i (vo x))) = false := by
          rcases a3 rfl with w | ⟨w1, w2⟩
          · rw [w]; rfl
          · rw [w1, w2]; cases b0 <;> rfl
        rw [e3]
    unfold wX11_cover_79
    rw [a1]
    dsimp only
    rw [hn]
    by_cases q : nB P ≤ o
    · rw [if_pos ((nN_le (by omega) (by omega)).mpr q)]
      obtain ⟨z, w, e⟩ := fin (fun _ => Or.inr q)
      exact ⟨_, w, e⟩
    · rw [if_neg (fun e => q ((nN_le (by omega) (by omega)).mp e))]
      cases b with
      | false =>
        rw [if_pos (show bI false = 0 by decide)]
        obtain ⟨z, w, e⟩ := fin (fun e => by cases e)
        exact ⟨_, w, e⟩
      | true =>
        rw [if_neg (show ¬ bI true = 0 by decide)]
        cases ho2 : own with
        | false =>
          rw [if_pos (show bI false = 0 by decide)]
          rw [ho2] at fin
          obtain ⟨z, w, e⟩ := fin (fun _ => Or.inl rfl)
          exact ⟨_, w, e⟩
        | true =>
          rw [if_neg (show ¬ bI true = 0 by decide)]
          obtain ⟨e1, e2⟩ := a2 rfl
          have hmu : nB P - (o + 1) < nB P - o := by omega
          have nx : (o = i ∨ ¬ inX P o x) → (∃ o_1 b, o_1 ≤ nB P ∧ ((1 : Int32), nI o + 1) = (bI b, nI o_1) ∧ (b = true → b0 = true ∧ (true = true → ∀ e, e < o_1 → e ≠ i → ¬ inX P e x)) ∧ (b = false → b0 = false ∨ (true = true ∧ otB P 5 i (vo x) = true))) ∧ nB P - ((1 : Int32), nI o + 1).2.toNatClampNeg < nB P - o := fun hh => ⟨⟨o + 1, true, by omega, by rw [nI_s]; rfl, fun _ => ⟨e1, fun _ e he hne => by
            by_cases q2 : e = o
            · rw [q2] at hne ⊢; exact hh.resolve_left hne
            · exact e2 ho2 e (by omega) hne⟩, fun e => by cases e⟩, by
            dsimp only
            rw [nI_s, nI_cl (by omega)]
            exact hmu⟩
          rw [nI_cl (n := o) (by omega)]
          by_cases q2 : o = i
          · rw [if_pos (by rw [q2])]
            exact ⟨_, rfl, nx (Or.inl q2)⟩
          · rw [if_neg (fun e => q2 ((nN_eq (by omega) (by omega)).mp e)), m_isInBox hBD hO hM hL hx (show o < nB P by omega), Option.bind_some]
            by_cases q3 : inX P o x
            · rw [if_pos (show dB (∀ f, f < 5 → (bk (bX P o) f).testBit (vo x f) = true) = true from dB_t.mpr q3), if_neg n01]
              refine ⟨_, rfl, ⟨o + 1, false, by omega, by rw [nI_s]; rfl, fun e => (by cases e), fun _ => Or.inr ⟨rfl, ?_⟩⟩, ?_⟩
              · unfold otB
                exact dB_t.mpr ⟨o, by omega, q2, q3⟩
              · dsimp only
                rw [nI_s, nI_cl (by omega)]
                exact hmu
            · rw [if_neg (show ¬ dB (∀ f, f < 5 → (bk (bX P o) f).testBit (vo x f) = true) = true from fun e => q3 (dB_t.mp e)), if_pos rfl]
              exact ⟨_, rfl, nx (Or.inr q3)⟩
  obtain ⟨o, w, e⟩ := key
  rw [w, e]
theorem m_cover41 (hBD : BD P) (hO : pOK P) (hM : mP P g) (hF : mF P g) (hL : mL P 33554432 g) {i : Nat} (hi : i < nB P) (own : Bool) : wh (wX11_cover_41 (nI i) (bI own) g) ((0 : Int32), (0 : Int32)) = some (nI (cvN P i own), g) := by
  rw [← cvN_cnt hO hi own]
  refine wh_seq (fun x => (nI (cnt (fun x => cvQ P i own (vo x)) x), nI x)) 3125 (fun x hx => ?_) ?_
  · dsimp only [wX11_cover_41]
    rw [if_neg (show ¬ (3125 : Int32) ≤ nI x from fun e => by have := (nN_le (a := 3125) (by omega) (by omega)).mp e; omega), zchk_t (zin_nI (by omega) (by omega)), nI_cl (by omega), (hF x hx).1, cnt_s]
    have e5 : alB (fun f => decide (vo x f < mq P f)) 5 = isF5 P x := rfl
    have m79 := fun b0 => m_cover79 (g := g) (x := x) (c := cnt (fun x => cvQ P i own (vo x)) x) hBD hO hM hL hi hx own b0
    cases hf : isF5 P x with
    | false =>
      have e : cvQ P i own (vo x) = false := by unfold cvQ; rw [e5, hf, Bool.false_and]
      rw [if_pos (show bI false = 0 by decide), show (0 : Int32) = bI false from rfl, show ((bI false), (bI false)) = (bI false, (0 : Int32)) from rfl, m79 false, e]
      rfl
    | true =>
      rw [if_neg (show ¬ bI true = 0 by decide), m_isInBox hBD hO hM hL hx hi, Option.bind_some]
      by_cases q : dB (∀ f, f < 5 → (bk (bX P i) f).testBit (vo x f) = true) = true
      · have e : cvQ P i own (vo x) = !(own && otB P 5 i (vo x)) := by unfold cvQ; rw [e5, hf, q, Bool.true_and, Bool.true_and]
        rw [if_pos q, if_neg n01, show (1 : Int32) = bI true from rfl, m79 true, e, Bool.true_and]
      · have e : cvQ P i own (vo x) = false := by unfold cvQ; rw [show dB (∀ f, f < 5 → (bk (bX P i) f).testBit (vo x f) = true) = false from by rw [← Bool.not_eq_true]; exact q, Bool.false_and, Bool.and_false]
        rw [if_neg q, if_pos rfl, show ((0 : Int32), (0 : Int32)) = (bI false, (0 : Int32)) from rfl, m79 false, e]
        rfl
  · dsimp only [wX11_cover_41]
    rw [if_pos (show (3125 : Int32) ≤ nI 3125 by decide)]
    rfl
theorem cov_z (hBD : BD S.1) {a : Int32} (hc : cI S g) (own : Bool) : ∃ cd an, cZ (nL_cover a (bI own)) S g cd an ∧ mV (nX11_cover a (bI own)) S S cd an := by
  have hO := hc.1
  have hb : nB S.1 ≤ 30000 := hBD 33554432 (Nat.le_refl _)
  rcases ix2 a (n := nB S.1) (by omega) with ⟨i, hi, e1⟩ | hno
  · rw [e1]
    obtain ⟨h1, w, a1, hc1, a2⟩ := e_needBox hc hi
    refine ⟨0, nI (cvN S.1 i own), ?_, fun h hm2 => ?_⟩
    · refine cZ_ls (X := nX10_cover (nI i) (bI own)) (h := h1) ?_ (kBx_N a1) hc1
      unfold nX10_cover
      rw [w, Option.bind_some]
      dsimp only [zel2]
      rw [zchk_t (decide_eq_true a1.2.2)]
      cases own with
      | false => rw [if_pos (show bI false = 0 by decide), e_allFormsB hO hc1.2.1.1 a2 hi, Option.bind_some]
      | true => rw [if_neg (show ¬ bI true = 0 by decide), e_ownForms hO hc1.2.1.1 a2 hi, Option.bind_some]
    · obtain ⟨k, wk, b1, b2, b3, b4⟩ := m_boxes hO hm2
      refine ⟨zi k 42 0 0, nI (cvN S.1 i own), ?_, ly_42 b1 0, rI_42 0 b2, zi_at _ _ _ _, fun _ => rfl⟩
      unfold nX11_cover jX11_cover_24
      rw [wk, Option.bind_some, (mL_n hBD hO b3).1, m_in hi (by omega), Option.bind_some, if_neg n01, zi_at, if_pos (Int32.le_refl 0), m_cover41 hBD hO (mP_sc (sc_42 k 0) b2.1.1) (mF_sc (sc_42 k 0) b2.1.2.1) (mL_42 0 b3) hi own]
  · obtain ⟨h1, w, a1, hc1⟩ := e_needBoxN hc hno
    refine ⟨1, 0, ?_, fun h hm2 => ?_⟩
    · refine cZ_rs (X := nX10_cover a (bI own)) (h := h1) (e := "java/util/NoSuchElementException") ?_ (kBx_N a1) hc1 (by rw [if_pos rfl]) n01
      unfold nX10_cover
      rw [w, Option.bind_some]
      dsimp only [zel2]
      rw [zchk_t (decide_eq_true a1.2.2)]
    · obtain ⟨k, wk, b1, b2, b3, b4⟩ := m_boxes hO hm2
      refine ⟨zi k 42 0 1, 0, ?_, ly_42 b1 1, rI_42 1 b2, zi_at _ _ _ _, fun q => absurd q n01⟩
      unfold nX11_cover jX11_cover_24
      rw [wk, Option.bind_some, (mL_n hBD hO b3).1, m_out (by omega) hno, Option.bind_some, if_pos rfl, zi_at, if_neg le1]
theorem s_8 (hBD : ∀ S, cI S g → BD S.1) (a : Nat → Int32) (hv : Iv g) : ∃ r, nS_8 a g = some r ∧ Iv r := by
  obtain ⟨S, hc, hm⟩ := hv
  replace hBD := hBD S hc
  unfold nS_8
  by_cases c : a 2 = 0
  · obtain ⟨cd, an, q1, q2⟩ := cov_z (a := a 1) hBD hc false
    obtain ⟨r, w, hr⟩ := st_z (L := nL_cover (a 1) (bI false)) (M := nX11_cover (a 1) (bI false)) hm q1 q2
    refine ⟨r, ?_, hr⟩
    rw [if_pos c, ← w]
    simp only [if_pos c]
    rfl
  · obtain ⟨cd, an, q1, q2⟩ := cov_z (a := a 1) hBD hc true
    obtain ⟨r, w, hr⟩ := st_z (L := nL_cover (a 1) (bI true)) (M := nX11_cover (a 1) (bI true)) hm q1 q2
    refine ⟨r, ?_, hr⟩
    rw [if_neg c, ← w]
    simp only [if_neg c]
    rfl
end S28
