
/-! ===== steps: blame, the reference ===== -/
section S24
variable {S S' : zSt} {g h k : zS} {P : zPl} {N : Nat} {r : Nat → Nat} {W : Nat → Nat → Prop}
theorem mP_mw (q : ∀ c k, W c k → ¬ (51 ≤ c ∧ c ≤ 54) ∧ c ≠ 58 ∧ (c = 42 → k ≠ 16 ∧ k ≠ 17 ∧ k ≠ 19)) (a : mw W g h) (p : mP P g) : mP P h := by
  have e : ∀ c, (51 ≤ c ∧ c ≤ 54) ∨ c = 58 → h.1 c = g.1 c := fun c hc => funext fun k => a.1 c k (fun w => by have := q c k w; omega)
  have f : ∀ k, k = 16 ∨ k = 17 ∨ k = 19 → h.1 42 k = g.1 42 k := fun k hk => a.1 42 k (fun w => by have := q 42 k w; omega)
  unfold mP at p ⊢
  rw [f 16 (by omega), f 17 (by omega), f 19 (by omega), e 51 (by omega), e 52 (by omega), e 53 (by omega), e 54 (by omega), e 58 (by omega)]
  exact p
/-- the reference's counts so far -/
def bl63 (P : zPl) (v : Nat → Nat) (g s : zS) : Prop := (∀ f, f < pn P → s.1 63 f = nI (v f)) ∧ mw (fun c _ => c = 63) g s
theorem m_blame96 (hBD : BD P) (hO : pOK P) (hM : mP P g) (hL : mL P 33554432 g) {c i : Nat} (hi : i < nB P) (hh : hlB P c i = true) {s : zS} (h1 : bl63 P (fun f => cnt (enB P c f) i) g s) (a1 n : Int32) : ∃ o : (Int32 × Int32 × zS) ⊕ (Int32 × zS), wh (wX11_blame_96 a1 n (nI i)) ((0 : Int32), s) = some o ∧ ∃ k, o = .inl (n, nI (i + 1), k) ∧ bl63 P (fun f => cnt (enB P c f) (i + 1)) g k := by
  have h5 := hO.1
  have hb : nB P ≤ 30000 := hBD 33554432 (Nat.le_refl _)
  refine wh_up (fun f (s : Int32 × zS) => s.1 = nI f ∧ bl63 P (fun e => if e < f then cnt (enB P c e) (i + 1) else cnt (enB P c e) i) g s.2) (fun (o : (Int32 × Int32 × zS) ⊕ (Int32 × zS)) => ∃ k, o = .inl (n, nI (i + 1), k) ∧ bl63 P (fun f => cnt (enB P c f) (i + 1)) g k) (pn P) ?_ ?_ ⟨rfl, fun e he => by dsimp only; rw [if_neg (by omega)]; exact h1.1 e he, h1.2⟩
  · intro f s hf ⟨a1, a2, a3⟩
    have hM2 := mP_mw (W := fun c _ => c = 63) (fun c k q => by omega) a3 hM
    have hL2 := mL_mw (W := fun c _ => c = 63) (fun c k q => by omega) a3 hL
    have hE := bS_lt (fun f => bk (bX P i) f != 2 ^ pq P f - 1) (pn P)
    have h2 : 2 ^ pn P ≤ 2 ^ 5 := Nat.pow_le_pow_right (by omega) h5
    have hcl : cnt (enB P c f) i ≤ i := cnt_le _ _
    have v := a2 f hf
    dsimp only at v
    rw [if_neg (by omega)] at v
    have hes : cnt (enB P c f) (i + 1) = if (bS (fun f => bk (bX P i) f != 2 ^ pq P f - 1) (pn P)).testBit f = true then cnt (enB P c f) i + 1 else cnt (enB P c f) i := by
      rw [en_s, bS_bit, decide_eq_true hf, Bool.true_and]
      unfold enB
      rw [hh, Bool.true_and]
    unfold wX11_blame_96
    rw [a1, hM2.1, if_neg (fun q => by rw [nN_le (by omega) (by omega)] at q; omega), zchk_t (zin_nI (by omega) (by omega)), m_enters hBD hO hM2 hL2 hi, Option.bind_some, m_has (by omega) (by omega), Option.bind_some, zchk_t (zin_nI (by omega) (by omega)), zchk_t (zin_nI (by omega) (by omega)), nI_cl (by omega), v]
    have fin : ∀ x : Int32, x = nI (cnt (enB P c f) (i + 1)) → ∃ s' : Int32 × zS, some (.inl (nI f + (1 : Int32), zi s.2 63 f x) : (Int32 × zS) ⊕ ((Int32 × Int32 × zS) ⊕ (Int32 × zS))) = some (.inl s') ∧ s'.1 = nI (f + 1) ∧ bl63 P (fun e => if e < f + 1 then cnt (enB P c e) (i + 1) else cnt (enB P c e) i) g s'.2 := fun x hx => by
      refine ⟨_, rfl, nI_s f, fun e he => ?_, mw_tr a3 (mw_zi (W := fun c _ => c = 63) rfl _ _)⟩
      by_cases q : e = f
      · rw [q, zi_at]
        dsimp only
        rw [if_pos (by omega), hx]
      · rw [zi_else _ _ (by omega), a2 e he]
        dsimp only
        by_cases q2 : e < f
        · rw [if_pos q2, if_pos (by omega)]
        · rw [if_neg q2, if_neg (by omega)]
    cases hb2 : (bS (fun f => bk (bX P i) f != 2 ^ pq P f - 1) (pn P)).testBit f with
    | true =>
      rw [if_neg (show ¬ (if true = true then (1 : Int32) else 0) = 0 by decide)]
      exact fin _ (by rw [hes, hb2, if_pos rfl, nI_s])
    | false =>
      rw [if_pos (show (if false = true then (1 : Int32) else 0) = 0 by decide)]
      exact fin _ (by rw [hes, hb2, if_neg (by decide), Int32.add_zero])
  · intro s ⟨a1, a2, a3⟩
    have hM2 := mP_mw (W := fun c _ => c = 63) (fun c k q => by omega) a3 hM
    unfold wX11_blame_96
    rw [a1, hM2.1, if_pos (Int32.le_refl _), nI_s]
    refine ⟨_, rfl, s.2, rfl, fun f hf => ?_, a3⟩
    rw [a2 f hf]
    dsimp only
    rw [if_pos hf]
theorem m_blame66 (hBD : BD P) (hO : pOK P) (hM : mP P g) (hR : mR P N r g) (hL : mL P 33554432 g) {j : Nat} (hj : j < N) {s : zS} (h1 : bl63 P (fun _ => 0) g s) : ∃ o : Int32 × zS, wh (wX11_blame_66 (nI j)) ((0 : Int32), (0 : Int32), s) = some o ∧ (o.1 = blA P (r j) ∧ mw (fun c _ => c = 63) g o.2) := by
  have h5 := hO.1
  have hb : nB P ≤ 30000 := hBD 33554432 (Nat.le_refl _)
  have hc := (hR.2.2 j hj).2
  have hlt := (vo_fno (a := fun f => rv (r j) f - 1) h5 (fun e he => by have := hc.2.1 e he; have := (hO.2.1 e he).2.1; omega)).1
  refine wh_up (fun i (s : Int32 × Int32 × zS) => s.1 = nI (cnt (hlB P (r j)) i) ∧ s.2.1 = nI i ∧ bl63 P (fun f => cnt (enB P (r j) f) i) g s.2.2) (fun o : Int32 × zS => o.1 = blA P (r j) ∧ mw (fun c _ => c = 63) g o.2) (nB P) ?_ ?_ ⟨rfl, rfl, h1⟩
  · intro i s hi ⟨a1, a2, a3⟩
    have hM2 := mP_mw (W := fun c _ => c = 63) (fun c k q => by omega) a3.2 hM
    have hL2 := mL_mw (W := fun c _ => c = 63) (fun c k q => by omega) a3.2 hL
    have hR2 := mR_mw (W := fun c _ => c = 63) (fun c k q => by omega) a3.2 hR
    have hn := (mL_n hBD hO hL2).1
    unfold wX11_blame_66
    rw [a2, hn, if_neg (fun q => by rw [nN_le (by omega) (by omega)] at q; omega), m_formOf hO hM2 hR2 hj, Option.bind_some, m_isInBox hBD hO hM2 hL2 hlt hi, Option.bind_some, hl_form hO hc hi, a1]
    cases hh : hlB P (r j) i with
    | false =>
      rw [if_pos (show (if false = true then (1 : Int32) else 0) = 0 by decide)]
      refine ⟨_, rfl, by rw [hl_s, hh, if_neg (by decide)], nI_s i, fun f hf => ?_, a3.2⟩
      rw [a3.1 f hf]
      dsimp only
      rw [en_s]
      unfold enB
      rw [hh, Bool.false_and, if_neg (by decide)]
    | true =>
      rw [if_neg (show ¬ (if true = true then (1 : Int32) else 0) = 0 by decide)]
      obtain ⟨o, w, k, e, q⟩ := m_blame96 hBD hO hM hL hi hh a3 (nI j) (nI (cnt (hlB P (r j)) i) + 1)
      exact ⟨(nI (cnt (hlB P (r j)) i) + 1, nI (i + 1), k), by rw [w, e], by rw [hl_s, hh, if_pos rfl, nI_s], rfl, q⟩
  · intro s ⟨a1, a2, a3⟩
    have hM2 := mP_mw (W := fun c _ => c = 63) (fun c k q => by omega) a3.2 hM
    have hL2 := mL_mw (W := fun c _ => c = 63) (fun c k q => by omega) a3.2 hL
    have hn := (mL_n hBD hO hL2).1
    unfold wX11_blame_66
    rw [a2, hn, if_pos (Int32.le_refl _), a1]
    have key : wh (wX11_blame_150 (nI (cnt (hlB P (r j)) (nB P))) s.2.2) ((0 : Int32), (1 : Int32)) = some (blA P (r j), s.2.2) := by
      have hcl : cnt (hlB P (r j)) (nB P) ≤ nB P := cnt_le _ _
      have hz : ∀ f, cnt (hlB P (r j)) (nB P) = 0 → bE P (r j) f = 0 := fun f e => by
        unfold bE
        refine cnt_zero (fun i hi => ?_)
        unfold enB
        cases hh : hlB P (r j) i with
        | false => rfl
        | true =>
          have := (cnt_pos (p := hlB P (r j)) (nB P)).mpr ⟨i, hi, hh⟩
          omega
      by_cases z : pn P = 0
      · refine wh_out ?_
        unfold wX11_blame_150 blA
        rw [hM2.1, z, if_pos (show nI 0 ≤ (1 : Int32) by decide), if_pos rfl]
        by_cases q : nI (cnt (hlB P (r j)) (nB P)) = 0
        · rw [if_pos q]; rfl
        · rw [if_neg q, if_pos (show nI 0 = (0 : Int32) from rfl)]; rfl
      · have b1 : ∀ f, bE P (r j) f ≤ 923521 := bE_le hO (r j)
        have hl : ∀ n, n < pn P → blB P (r j) (n + 1) < pn P := fun n hn => by have := blB_lt P (r j) n; omega
        refine wh_seq (fun i => (nI (blB P (r j) (i + 1)), nI (i + 1))) (pn P - 1) (fun i hi => ?_) ?_
        · have q1 := hl i (by omega)
          have w1 := hO.2.1 (blB P (r j) (i + 1)) q1
          have w2 := hO.2.1 (i + 1) (by omega)
          have v1 : s.2.2.1 63 (blB P (r j) (i + 1)) = nI (bE P (r j) (blB P (r j) (i + 1))) := a3.1 _ q1
          have v2 : s.2.2.1 63 (i + 1) = nI (bE P (r j) (i + 1)) := a3.1 _ (by omega)
          have c1 := b1 (blB P (r j) (i + 1))
          have c2 := b1 (i + 1)
          dsimp only [wX11_blame_150]
          rw [hM2.1, if_neg (fun q => by rw [nN_le (by omega) (by omega)] at q; omega)]
          simp only [zchk_t (zin_nI (i := i + 1) (n := 5) (by omega) (by omega)), zchk_t (zin_nI (i := blB P (r j) (i + 1)) (n := 5) (by omega) (by omega)), nI_cl (n := i + 1) (by omega), nI_cl (n := blB P (r j) (i + 1)) (by omega)]
          rw [v1, v2, hM2.2.2.2.2.1 _ q1, hM2.2.2.2.2.1 _ (show i + 1 < pn P by omega), blB_s P (r j) (show i + 1 ≠ 0 by omega), nI_s]
          by_cases q3 : bE P (r j) (blB P (r j) (i + 1)) < bE P (r j) (i + 1)
          · rw [if_pos ((nN_lt (by omega) (by omega)).mpr q3), if_pos (Or.inl q3)]
          · rw [if_neg (fun e => q3 ((nN_lt (by omega) (by omega)).mp e))]
            by_cases q4 : bE P (r j) (i + 1) = bE P (r j) (blB P (r j) (i + 1))
            · rw [if_pos (by rw [q4])]
              by_cases q5 : pw P (i + 1) < pw P (blB P (r j) (i + 1))
              · rw [if_neg (fun e => by rw [nN_le (by omega) (by omega)] at e; omega), if_pos (Or.inr ⟨q4, q5⟩)]
              · rw [if_pos ((nN_le (by omega) (by omega)).mpr (by omega)), if_neg (fun e => e.elim q3 (fun e2 => q5 e2.2))]
            · rw [if_neg (fun e => q4 ((nN_eq (by omega) (by omega)).mp e)), if_neg (fun e => e.elim q3 (fun e2 => q4 e2.1))]
        · have q1 := hl (pn P - 1) (by omega)
          rw [show pn P - 1 + 1 = pn P by omega] at q1
          have v1 : s.2.2.1 63 (blB P (r j) (pn P)) = nI (bE P (r j) (blB P (r j) (pn P))) := a3.1 _ q1
          have c1 := b1 (blB P (r j) (pn P))
          dsimp only [wX11_blame_150]
          rw [show pn P - 1 + 1 = pn P by omega, hM2.1, if_pos (Int32.le_refl _), if_neg (fun e => z ((nN_eq0 (by omega)).mp e)), zchk_t (zin_nI (by omega) (by omega)), nI_cl (by omega), v1]
          unfold blA
          rw [if_neg z]
          by_cases q3 : cnt (hlB P (r j)) (nB P) = 0
          · rw [if_pos ((nN_eq0 (by omega)).mpr q3), if_pos (hz _ q3)]
            rfl
          · rw [if_neg (fun e => q3 ((nN_eq0 (by omega)).mp e))]
            by_cases q4 : bE P (r j) (blB P (r j) (pn P)) = 0
            · rw [if_pos ((nN_eq0 (by omega)).mpr q4), if_pos q4]
              rfl
            · rw [if_neg (fun e => q4 ((nN_eq0 (by omega)).mp e)), if_neg q4]
              rfl
    rw [key]
    exact ⟨_, rfl, rfl, a3.2⟩
theorem m_blame46 (hBD : BD P) (hO : pOK P) (hM : mP P g) (hR : mR P N r g) (hL : mL P 33554432 g) {j : Nat} (hj : j < N) : ∃ o : Int32 × zS, wh (wX11_blame_46 (nI j) 0) ((0 : Int32), g) = some o ∧ (o.1 = blA P (r j) ∧ mw (fun c _ => c = 63) g o.2) := by
  have h5 := hO.1
  refine wh_up (fun f (s : Int32 × zS) => s.1 = nI f ∧ (∀ e, e < f → s.2.1 63 e = 0) ∧ mw (fun c _ => c = 63) g s.2) (fun o : Int32 × zS => o.1 = blA P (r j) ∧ mw (fun c _ => c = 63) g o.2) 5 ?_ ?_ ⟨rfl, fun e he => by omega, mw_rfl _⟩
  · intro f s hf ⟨a1, a2, a3⟩
    unfold wX11_blame_46
    rw [a1, if_neg (show ¬ (5 : Int32) ≤ nI f from fun e => by have := (nN_le (a := 5) (by omega) (by omega)).mp e; omega), zchk_t (zin_nI (by omega) (by omega)), nI_cl (by omega)]
    refine ⟨_, rfl, nI_s f, fun e he => ?_, mw_tr a3 (mw_zi (W := fun c _ => c = 63) rfl _ _)⟩
    by_cases q : e = f
    · rw [q, zi_at]
    · rw [zi_else _ _ (by omega)]; exact a2 e (by omega)
  · intro s ⟨a1, a2, a3⟩
    unfold wX11_blame_46
    rw [a1, if_pos (show (5 : Int32) ≤ nI 5 by decide)]
    obtain ⟨o, w, e⟩ := m_blame66 hBD hO hM hR hL hj (s := s.2) ⟨fun f hf => a2 f (by omega), a3⟩
    exact ⟨o, by rw [w]; rfl, e⟩
theorem s_22 (hBD : ∀ S, cI S g → BD S.1) (a : Nat → Int32) (hv : Iv g) : ∃ r, nS_22 a g = some r ∧ Iv r := by
  obtain ⟨S, hc, hm⟩ := hv
  replace hBD := hBD S hc
  obtain ⟨hO, ⟨hP, hE, hC0, hL, h6, hG⟩, ⟨hR, hH, hz⟩, hT, hWr, hFl, hB⟩ := id hc
  have h40 := hR.2.1
  unfold nS_22
  rcases ix2 (a 1) (n := S.2.1.1) (by omega) with ⟨i, hi, e1⟩ | hno
  · rw [e1]
    by_cases full : ∀ f, f < pn S.1 → rv (S.2.1.2.1 i) f ≠ 0
    · refine st_z (S := S) (L := nL_blame (nI i)) (M := nX11_blame (nI i)) (cd := 0) (an := blA S.1 (S.2.1.2.1 i)) hm ?_ (fun h hm2 => ?_)
      · obtain ⟨h1, w, a1, hc1, a2, a3⟩ := cI_size hc
        have hna : nX10_needAnswers (nI i) 0 g = some (.inl ()) := c_needAnswers (S := 0) hO hP hR hi ((full_m hO _).mpr full)
        have hbl := e_blamed hO hP (hR.2.2 i hi).2 full w a1.2.2 a3 hc1.2.1.1 a2
        have hx : nX10_blame (nI i) g = some (.inl (blA S.1 (S.2.1.2.1 i)), if pn S.1 = 0 then g else h1) := by
          unfold nX10_blame
          rw [c_needRow hR hi, Option.bind_some, zel_i, hna, Option.bind_some, zel_i, e_codeOf hR hi, Option.bind_some, hbl, Option.bind_some]
          by_cases z : pn S.1 = 0
          · rw [if_pos z, zchk_t (decide_eq_true (Nat.le_refl _))]
          · rw [if_neg z, zchk_t (decide_eq_true a1.2.2)]
        by_cases z : pn S.1 = 0
        · rw [if_pos z] at hx
          exact cZ_ls (X := nX10_blame (nI i)) (h := g) hx (fz_fr (fr_rfl _ _)) hc
        · rw [if_neg z] at hx
          exact cZ_ls (X := nX10_blame (nI i)) (h := h1) hx (kBx_N a1) hc1
      · obtain ⟨⟨hM, hF, hNm, hBx⟩, ⟨hR2, hH2⟩, hT2, hW2, hF2⟩ := id hm2
        obtain ⟨k, wk, b1, b2, b3, b4⟩ := m_boxes hO (rI_42 0 hm2)
        obtain ⟨o, wo, d1, d2⟩ := m_blame46 hBD hO b2.1.1 b2.2.1.1 b3 hi
        have d3 : sc k o.2 := ⟨fun c i hci => d2.1 c i (fun e => by
          have e' : c = 63 := e
          rw [e'] at hci
          cases hci), d2.2⟩
        have b5 : mw Wly h k := mw_tr (mw_zi (Or.inl ⟨rfl, Or.inl rfl⟩) _ _) b1
        refine ⟨o.2, o.1, ?_, fr_tr (ly_R b5) (sc_fr d3), rI_sc d3 b2, by rw [d2.1 42 0 (by omega), b4, zi_at], fun _ => d1⟩
        unfold nX11_blame jX11_blame_26
        rw [m_isRow hR2 hi, Option.bind_some, if_neg n01, m_missing hO hM hR2 hi, Option.bind_some, (rmis_0 _ _).mpr full, if_pos (show nI 0 = (0 : Int32) from rfl), zi_at, if_pos (Int32.le_refl 0), wk, Option.bind_some, wo]
    · refine st_z (S := S) (L := nL_blame (nI i)) (M := nX11_blame (nI i)) (cd := 2) (an := 0) hm ?_ (fun h hm2 => ?_)
      · refine cZ_rs (X := nX10_blame (nI i)) (h := g) (e := "java/lang/IllegalStateException") ?_ (fz_fr (fr_rfl _ _)) hc (by rw [if_neg (by decide), if_pos rfl]) n02
        unfold nX10_blame
        have hna : nX10_needAnswers (nI i) 0 g = some (.inr "java/lang/IllegalStateException") := c_needAnswersN (S := 0) hO hP hR hi (by
          rw [← Bool.not_eq_true, full_m hO]
          exact full)
        rw [c_needRow hR hi, Option.bind_some, zel_i, hna, Option.bind_some, zel_e]
      · obtain ⟨⟨hM, hF, hNm, hBx⟩, ⟨hR2, hH2⟩, hT2, hW2, hF2⟩ := id hm2
        have hlt := pcn_rm hO (S.2.1.2.1 i)
        refine ⟨zi h 42 0 2, 0, ?_, sc_fr (sc_42 h 2), rI_42 2 hm2, zi_at _ _ _ _, fun q => absurd q n02⟩
        unfold nX11_blame jX11_blame_26
        rw [m_isRow hR2 hi, Option.bind_some, if_neg n01, m_missing hO hM hR2 hi, Option.bind_some, if_neg (fun e => full ((rmis_0 _ _).mp ((nN_eq0 (by omega)).mp e))), zi_at, if_neg le2]
  · refine st_z (S := S) (L := nL_blame (a 1)) (M := nX11_blame (a 1)) (cd := 1) (an := 0) hm ?_ (fun h hm2 => ?_)
    · exact cZ_rs (X := nX10_blame (a 1)) (h := g) (by unfold nX10_blame; rw [c_needRowN hR hno, Option.bind_some, zel_e]) (fz_fr (fr_rfl _ _)) hc (by rw [if_pos rfl]) n01
    · obtain ⟨_, ⟨p2, p3⟩, _⟩ := id hm2
      refine ⟨zi h 42 0 1, 0, ?_, sc_fr (sc_42 h 1), rI_42 1 hm2, zi_at _ _ _ _, fun q => absurd q n01⟩
      unfold nX11_blame jX11_blame_26
      rw [m_isRowN p2 hno, Option.bind_some, if_pos rfl, zi_at, if_neg le1]
end S24
