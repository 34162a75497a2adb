
/-! ===== steps: from, the reference ===== -/
section S26
variable {S S' : zSt} {g h k : zS} {P : zPl}
theorem m_from75 (hBD : BD P) (hO : pOK P) (hM : mP P g) (hF : mF P g) (hL : mL P 33554432 g) {i s : Nat} (hi : i < nB P) (hs : s < 64) (a2 : Int32) : wh (wX11_from_75 (nI i) a2 (nI s) g) ((1 : Int32), (0 : Int32)) = some (.inl (if dB (cvP P i s) then nI s else a2, nI (s + 1))) := by
  have hin : ∀ x, (dB (∀ f, f < 5 → (bk (bX P i) f).testBit (vo x f) = true) = true) ↔ inX P i x := fun x => dB_t
  have key : ∃ o, wh (wX11_from_75 (nI i) a2 (nI s) g) ((1 : Int32), (0 : Int32)) = some o ∧ o = .inl (if dB (cvP P i s) then nI s else a2, nI (s + 1)) := by
    refine wh_post (fun t : Int32 × Int32 => ∃ x, x ≤ 3125 ∧ t.2 = nI x ∧ ((t.1 = 1 ∧ ∀ y, y < x → isF5 P y = true → inX P i y → fsM P y &&& s ≠ 0) ∨ (t.1 = 0 ∧ ¬ cvP P i s))) (fun t => 3125 - t.2.toNatClampNeg) (fun (o : (Int32 × Int32) ⊕ (Int32 × zS)) => o = .inl (if dB (cvP P i s) then nI s else a2, nI (s + 1))) ?_ _ ⟨0, by omega, rfl, Or.inl ⟨rfl, fun y hy => by omega⟩⟩
    intro t ⟨x, hx, a1, a3⟩
    have fy : t.1 = 1 → cvP P i s → (jX11_from_133 (nI i) a2 (nI s) t.1 g) = some (.inl (if dB (cvP P i s) then nI s else a2, nI (s + 1))) := fun e q => by
      unfold jX11_from_133
      rw [e, if_neg n01, if_pos (dB_t.mpr q), nI_s]
    have fn : t.1 = 0 → ¬ cvP P i s → (jX11_from_133 (nI i) a2 (nI s) t.1 g) = some (.inl (if dB (cvP P i s) then nI s else a2, nI (s + 1))) := fun e q => by
      unfold jX11_from_133
      rw [e, if_pos rfl, if_neg (fun w => q (dB_t.mp w)), nI_s]
    unfold wX11_from_75
    rw [a1]
    by_cases q : x = 3125
    · rw [q, if_pos (show (3125 : Int32) ≤ nI 3125 by decide)]
      rcases a3 with ⟨e, w⟩ | ⟨e, w⟩
      · rw [fy e (fun y hy => w y (by omega))]
        exact ⟨_, rfl, rfl⟩
      · rw [fn e w]
        exact ⟨_, rfl, rfl⟩
    · rw [if_neg (show ¬ (3125 : Int32) ≤ nI x from fun e => by have := (nN_le (a := 3125) (by omega) (by omega)).mp e; omega)]
      rcases a3 with ⟨e, w⟩ | ⟨e, w⟩
      · obtain ⟨m1, m2⟩ := hF x (by omega)
        have hl : fsM P x < 64 := fsM_lt hO x
        have hmu : 3125 - (x + 1) < 3125 - x := by omega
        have nx : (isF5 P x = true → inX P i x → fsM P x &&& s ≠ 0) → (∃ x_1, x_1 ≤ 3125 ∧ ((1 : Int32), nI x + 1).2 = nI x_1 ∧ ((((1 : Int32), nI x + 1).1 = 1 ∧ ∀ y, y < x_1 → isF5 P y = true → inX P i y → fsM P y &&& s ≠ 0) ∨ (((1 : Int32), nI x + 1).1 = 0 ∧ ¬ cvP P i s))) ∧ 3125 - ((1 : Int32), nI x + 1).2.toNatClampNeg < 3125 - x := fun hw => ⟨⟨x + 1, by omega, nI_s x, Or.inl ⟨rfl, fun y hy => by
          by_cases q2 : y = x
          · rw [q2]; exact hw
          · exact w y (by omega)⟩⟩, by
            dsimp only
            rw [nI_s, nI_cl (by omega)]
            exact hmu⟩
        rw [e, if_neg n01, zchk_t (zin_nI (by omega) (by omega)), nI_cl (by omega), m1]
        cases hf : isF5 P x with
        | false =>
          rw [if_pos ((bI_0 false).mpr rfl)]
          exact ⟨_, rfl, nx (fun h => by rw [hf] at h; cases h)⟩
        | true =>
          rw [if_neg (fun h => by rw [bI_0] at h; cases h), m_isInBox hBD hO hM hL (by omega) hi, Option.bind_some]
          by_cases hb : dB (∀ f, f < 5 → (bk (bX P i) f).testBit (vo x f) = true) = true
          · rw [hb, if_neg (show ¬ (if true = true then (1 : Int32) else 0) = 0 by decide), zchk_t (zin_nI (by omega) (by omega)), m2, nI_and]
            by_cases q3 : fsM P x &&& s = 0
            · rw [if_pos (by rw [q3]; rfl)]
              refine ⟨_, rfl, ⟨x + 1, by omega, nI_s x, Or.inr ⟨rfl, fun hcv => hcv x (by omega) hf ((hin x).mp hb) q3⟩⟩, ?_⟩
              dsimp only
              rw [nI_s, nI_cl (by omega)]
              exact hmu
            · rw [if_neg (fun h => q3 ((nN_eq0 (Nat.lt_of_le_of_lt Nat.and_le_left (by omega))).mp h))]
              exact ⟨_, rfl, nx (fun _ _ => q3)⟩
          · rw [show dB (∀ f, f < 5 → (bk (bX P i) f).testBit (vo x f) = true) = false from by rw [← Bool.not_eq_true]; exact hb, if_pos (show (if false = true then (1 : Int32) else 0) = 0 by decide)]
            exact ⟨_, rfl, nx (fun _ h2 => (hb ((hin x).mpr h2)).elim)⟩
      · rw [if_pos e, fn e w]
        exact ⟨_, rfl, rfl⟩
  obtain ⟨o, w, e⟩ := key
  rw [w, e]
theorem m_from40 (hBD : BD P) (hO : pOK P) (hM : mP P g) (hF : mF P g) (hL : mL P 33554432 g) {i : Nat} (hi : i < nB P) : ∃ o : Int32 × zS, wh (wX11_from_40 (nI i) g) ((-1 : Int32), (1 : Int32)) = some o ∧ ∃ n, o = (nI n, g) ∧ fwR P i n := by
  have h6 := p6 hO
  have hm := hO.2.2.2.1
  obtain ⟨v1, v2⟩ := cv_all hO hi
  have h2 : 2 ^ 1 ≤ 2 ^ pm P := Nat.pow_le_pow_right (by omega) v2
  refine wh_up (fun j (s : Int32 × Int32) => s.2 = nI (j + 1) ∧ ((s.1 = -1 ∧ ∀ s, 1 ≤ s → s < j + 1 → ¬ cvP P i s) ∨ ∃ b, s.1 = nI b ∧ cvP P i b ∧ 1 ≤ b ∧ b < j + 1 ∧ ∀ s, 1 ≤ s → s < j + 1 → cvP P i s → pcn b < pcn s ∨ (pcn b = pcn s ∧ b ≤ s))) (fun o : Int32 × zS => ∃ n, o = (nI n, g) ∧ fwR P i n) (2 ^ pm P - 1) ?_ ?_ ⟨rfl, Or.inl ⟨rfl, fun s h1 h2 => by omega⟩⟩
  · intro j s hj ⟨a1, a2⟩
    have hS : j + 1 < 64 := by omega
    have p1 := pcn_le (j + 1)
    unfold wX11_from_40
    rw [a1, hM.2.1, nI_shl (by omega), if_neg (fun q => by rw [nN_le (by omega) (by omega)] at q; omega)]
    rcases a2 with ⟨e, w⟩ | ⟨b, e, w1, w2, w3, w4⟩
    · rw [e, if_pos rfl, m_from75 hBD hO hM hF hL hi hS]
      refine ⟨_, rfl, rfl, ?_⟩
      by_cases q : cvP P i (j + 1)
      · rw [if_pos (dB_t.mpr q)]
        refine Or.inr ⟨j + 1, rfl, q, by omega, by omega, fun s h1 h2 h3 => ?_⟩
        by_cases q2 : s = j + 1
        · rw [q2]; exact Or.inr ⟨rfl, Nat.le_refl _⟩
        · exact absurd h3 (w s h1 (by omega))
      · rw [if_neg (fun h => q (dB_t.mp h))]
        refine Or.inl ⟨rfl, fun s h1 h2 => ?_⟩
        by_cases q2 : s = j + 1
        · rw [q2]; exact q
        · exact w s h1 (by omega)
    · have p2 := pcn_le b
      rw [e, if_neg (fun q => by rw [nI_m1, nN_eqm (by omega)] at q; exact q), m_bits hS, Option.bind_some, m_bits (by omega), Option.bind_some]
      by_cases q3 : pcn (j + 1) < pcn b
      · rw [if_pos ((nN_lt (by omega) (by omega)).mpr q3), m_from75 hBD hO hM hF hL hi hS]
        refine ⟨_, rfl, rfl, Or.inr ?_⟩
        by_cases q : cvP P i (j + 1)
        · rw [if_pos (dB_t.mpr q)]
          refine ⟨j + 1, rfl, q, by omega, by omega, fun s h1 h2 h3 => ?_⟩
          by_cases q2 : s = j + 1
          · rw [q2]; exact Or.inr ⟨rfl, Nat.le_refl _⟩
          · have := w4 s h1 (by omega) h3
            omega
        · rw [if_neg (fun h => q (dB_t.mp h))]
          refine ⟨b, rfl, w1, w2, by omega, fun s h1 h2 h3 => ?_⟩
          by_cases q2 : s = j + 1
          · rw [q2] at h3; exact absurd h3 q
          · exact w4 s h1 (by omega) h3
      · rw [if_neg (fun h => q3 ((nN_lt (by omega) (by omega)).mp h)), nI_s]
        refine ⟨_, rfl, rfl, Or.inr ⟨b, rfl, w1, w2, by omega, fun s h1 h2 h3 => ?_⟩⟩
        by_cases q2 : s = j + 1
        · rw [q2]
          omega
        · exact w4 s h1 (by omega) h3
  · intro s ⟨a1, a2⟩
    rw [show 2 ^ pm P - 1 + 1 = 2 ^ pm P by omega] at a1 a2
    unfold wX11_from_40
    rw [a1, hM.2.1, nI_shl (by omega), if_pos (Int32.le_refl _)]
    rcases a2 with ⟨e, w⟩ | ⟨b, e, w1, w2, w3, w4⟩
    · exact absurd v1 (w _ (by omega) (by omega))
    · exact ⟨_, rfl, b, by rw [e], w1, w2, w3, w4⟩
theorem s_7 (hBD : ∀ S, cI S g → BD S.1) (a : Nat → Int32) (hv : Iv g) : ∃ r, nS_7 a g = some r ∧ Iv r := by
  obtain ⟨S, hc, hm⟩ := hv
  replace hBD := hBD S hc
  have hO := hc.1
  have hb : nB S.1 ≤ 30000 := hBD 33554432 (Nat.le_refl _)
  unfold nS_7
  rcases ix2 (a 1) (n := nB S.1) (by omega) with ⟨i, hi, e1⟩ | hno
  · rw [e1]
    obtain ⟨h1, w, a1, hc1, a2⟩ := e_needBox hc hi
    obtain ⟨R, wR, n, eR, hR⟩ := e_fewest hO hc1.2.1.1 hc1.2.1.2.1 a2 hi
    refine st_z (S := S) (L := nL_from (nI i)) (M := nX11_from (nI i)) (cd := 0) (an := nI n) hm ?_ (fun h hm2 => ?_)
    · refine cZ_ls (X := nX10_from (nI i)) (h := h1) ?_ (kBx_N a1) hc1
      unfold nX10_from
      rw [w, Option.bind_some]
      dsimp only [zel2]
      rw [zchk_t (decide_eq_true a1.2.2), wR, Option.bind_some, eR]
    · obtain ⟨k, wk, b1, b2, b3, b4⟩ := m_boxes hO hm2
      obtain ⟨o, wo, n2, eo, hn⟩ := m_from40 hBD hO (mP_sc (sc_42 k 0) b2.1.1) (mF_sc (sc_42 k 0) b2.1.2.1) (mL_42 0 b3) hi
      have en := fwR_uniq hn hR
      refine ⟨zi k 42 0 0, nI n, ?_, ly_42 b1 0, rI_42 0 b2, zi_at _ _ _ _, fun _ => rfl⟩
      unfold nX11_from jX11_from_24
      rw [wk, Option.bind_some, (mL_n hBD hO b3).1, m_in hi (by omega), Option.bind_some, if_neg n01, zi_at, if_pos (Int32.le_refl 0), wo, eo, en]
  · obtain ⟨h1, w, a1, hc1⟩ := e_needBoxN hc hno
    refine st_z (S := S) (L := nL_from (a 1)) (M := nX11_from (a 1)) (cd := 1) (an := 0) hm ?_ (fun h hm2 => ?_)
    · refine cZ_rs (X := nX10_from (a 1)) (h := h1) (e := "java/util/NoSuchElementException") ?_ (kBx_N a1) hc1 (by rw [if_pos rfl]) n01
      unfold nX10_from
      rw [w, Option.bind_some]
      dsimp only [zel2]
      rw [zchk_t (decide_eq_true a1.2.2)]
    · obtain ⟨k, wk, b1, b2, b3, b4⟩ := m_boxes hO hm2
      refine ⟨zi k 42 0 1, 0, ?_, ly_42 b1 1, rI_42 1 b2, zi_at _ _ _ _, fun q => absurd q n01⟩
      unfold nX11_from jX11_from_24
      rw [wk, Option.bind_some, (mL_n hBD hO b3).1, m_out (by omega) hno, Option.bind_some, if_pos rfl, zi_at, if_neg le1]
end S26
