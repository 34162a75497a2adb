
/-! ===== steps: usual values, what may stand, what is likely ===== -/
section S6
variable {g h : zS} {P : zPl} {N : Nat} {r : Nat → Nat}
theorem m_usual96 (hO : pOK P) (hM : mP P g) (hF : mF P g) (hR : mR P N r g) {G f v b m : Nat} (hf : f < pn P) (hv : v < 7) (hG : G < 8) (hp : G ≠ 0 → pg P < pn P) (hm : m ≤ 40) : wh (wX11_usual_96 (nJ G) (nI f) (nJ b) (nI m) (nI v) g) ((0 : Int32), (0 : Int32)) = some (.inl (if cnt (fun k => hav P G f v (r k)) N ≤ m then (nJ b, nI m, nI (v + 1)) else (nI v, nI (cnt (fun k => hav P G f v (r k)) N), nI (v + 1)))) := by
  have h5 := hO.1
  have hN := hR.2.1
  have hc := cnt_le (fun k => hav P G f v (r k)) N
  refine wh_seq (fun i => (nI (cnt (fun k => hav P G f v (r k)) i), nI i)) N (fun i hi => ?_) ?_
  · have hr := rv_lt (r i) f
    have hr2 := rv_lt (r i) (pg P)
    dsimp only [wX11_usual_96]
    rw [hR.1, if_neg (by rw [nN_le (by omega) (by omega)]; omega), m_passesRow hO hM hF hR hi, Option.bind_some, nI_s i, cnt_s]
    have fin : ∀ x : Bool, rgt P (r i) = true → iG P (r i) G = x → x = true → jX11_usual_135 (nJ G) (nI f) (nJ b) (nI m) (nI v) (nI i) (nI (cnt (fun k => hav P G f v (r k)) i)) g = some (.inl (nI (if hav P G f v (r i) = true then cnt (fun k => hav P G f v (r k)) i + 1 else cnt (fun k => hav P G f v (r k)) i), nI (i + 1))) := fun x h1 h2 h3 => by
      have eh : hav P G f v (r i) = (rv (r i) f == v + 1) := by unfold hav; rw [h1, h2, h3, Bool.and_true, Bool.and_true]
      unfold jX11_usual_135
      rw [m_of hR h5 hi hf, Option.bind_some, nI_s i, eh]
      by_cases c : rv (r i) f = v + 1
      · rw [if_pos (show nJ (rv (r i) f) = nI v by rw [c, nJ_s]), nI_s, c, beq_self_eq_true, if_pos rfl]
      · rw [if_neg (show ¬ nJ (rv (r i) f) = nI v from fun q => c ((nJ_eq (b := v + 1) (by omega) (by omega)).mp (by rw [nJ_s]; exact q))), Int32.add_zero, show (rv (r i) f == v + 1) = false by simp [c], if_neg (by decide)]
    cases hrg : rgt P (r i) with
    | false =>
      have eh : hav P G f v (r i) = false := by unfold hav; rw [hrg, Bool.and_false]
      rw [if_pos (show (if false = true then (1 : Int32) else 0) = 0 by decide), Int32.add_zero, eh, if_neg (by decide)]
    | true =>
      rw [if_neg (show ¬ (if true = true then (1 : Int32) else 0) = 0 by decide)]
      by_cases hG0 : G = 0
      · rw [if_pos ((nJ_m1 (by omega)).mpr hG0)]
        exact fin true hrg (by unfold iG; rw [hG0]; rfl) rfl
      · have hpg := hp hG0
        have eg : g.1 42 19 = nI (pg P) := by rw [hM.2.2.1]; exact if_neg (by omega)
        rw [if_neg (fun q => hG0 ((nJ_m1 (by omega)).mp q)), eg, m_of hR h5 hi hpg, Option.bind_some]
        by_cases c2 : rv (r i) (pg P) = G
        · rw [if_pos (by rw [c2])]
          exact fin true hrg (by unfold iG; rw [c2]; simp) rfl
        · have eh : hav P G f v (r i) = false := by unfold hav iG; simp [hG0, c2]
          rw [if_neg (fun q => c2 ((nJ_eq (by omega) (by omega)).mp q)), Int32.add_zero, eh, if_neg (by decide)]
  · dsimp only [wX11_usual_96]
    rw [hR.1, if_pos (Int32.le_refl _), nI_s]
    by_cases c : cnt (fun k => hav P G f v (r k)) N ≤ m
    · rw [if_neg (by rw [nN_lt (by omega) (by omega)]; omega), if_pos c]; rfl
    · rw [if_pos (by rw [nN_lt (by omega) (by omega)]; omega), if_neg c]; rfl
theorem m_usual79 (hO : pOK P) (hM : mP P g) (hF : mF P g) (hR : mR P N r g) {G f : Nat} (hf : f < pn P) (hG : G < 8) (hp : G ≠ 0 → pg P < pn P) : wh (wX11_usual_79 (nJ G) (nI f) g) ((-1 : Int32), (0 : Int32), (0 : Int32)) = some (nJ (usl P N r G f (pq P f)).1, g) := by
  have h5 := hO.1
  have hN := hR.2.1
  have hq := (hO.2.1 f hf).2.1
  refine wh_seq (fun v => (nJ (usl P N r G f v).1, nI (usl P N r G f v).2, nI v)) (pq P f) (fun v hv => ?_) ?_
  · have hu := usl_le P N r G f v
    dsimp only [wX11_usual_79]
    rw [zchk_t (zin_nI (by omega) (by omega)), nI_cl (by omega), hM.2.2.2.1 f hf, if_neg (by rw [nN_le (by omega) (by omega)]; omega), m_usual96 hO hM hF hR hf (by omega) hG hp (by omega), usl_s]
    by_cases c : cnt (fun k => hav P G f v (r k)) N ≤ (usl P N r G f v).2
    · rw [if_pos c, if_pos c]
    · rw [if_neg c, if_neg c, nJ_s]
  · dsimp only [wX11_usual_79]
    rw [zchk_t (zin_nI (by omega) (by omega)), nI_cl (by omega), hM.2.2.2.1 f hf, if_pos (Int32.le_refl _)]
    rfl
theorem s_44 (a : Nat → Int32) (hv : Iv g) : ∃ r, nS_44 a g = some r ∧ Iv r := by
  obtain ⟨S, hc, hm⟩ := hv
  obtain ⟨hO, ⟨hP, hE, hC0, hL, h6, hG⟩, ⟨hR, hH, hz⟩, hT, hWr, hFl, hB⟩ := id hc
  have h5 := hO.1
  unfold nS_44
  rcases ix2 (a 2) (n := pn S.1) (by omega) with ⟨f, hf, e2⟩ | hno
  · rw [e2]
    have good : ∀ G, G < 8 → (G ≠ 0 → pg S.1 < pn S.1 ∧ G - 1 < pq S.1 (pg S.1)) → a 1 = nJ G → ∃ r, stT (nL_usual (a 1) (nI f)) (nX11_usual (a 1) (nI f)) g = some r ∧ Iv r := fun G hG hp e1 => by
      rw [e1]
      refine st_t (cd := 0) (an := nJ (usl S.1 S.2.1.1 S.2.1.2.1 G f (pq S.1 f)).1) hc hm ?_ ?_
      · refine cQ_l (X := nX10_usual (nJ G) (nI f)) ?_
        unfold nX10_usual jX10_usual_15
        rw [c_needField hO hP hf, Option.bind_some, zel_i, e_usualIn hO hP hE hR hf hG (fun q => (hp q).1), Option.bind_some]
        by_cases c : G = 0
        · rw [if_pos ((nJ_m1 (by omega)).mpr c)]
        · obtain ⟨q1, q2⟩ := hp c
          rw [if_neg (fun q => c ((nJ_m1 (by omega)).mp q)), nJ_pp (by omega), c_needGroup hO hP q1 q2, Option.bind_some, zel_i]
      · intro h hm2
        obtain ⟨⟨hM, hF, hNm, hBx⟩, ⟨hR2, hH2⟩, hT2, hW2, hF2⟩ := id hm2
        have hMz := mP_sc (sc_42 h 0) hM
        have hFz := mF_sc (sc_42 h 0) hF
        have hRz := mR_sc (sc_42 h 0) hR2
        have e59 : jX11_usual_59 (nJ G) (nI f) 0 h = some (nJ (usl S.1 S.2.1.1 S.2.1.2.1 G f (pq S.1 f)).1, zi h 42 0 0) := by
          unfold jX11_usual_59
          rw [zi_at, if_pos (Int32.le_refl 0), m_usual79 hO hMz hFz hRz hf hG (fun q => (hp q).1)]
        unfold nX11_usual jX11_usual_30 jX11_usual_58
        rw [m_isField hO hM hf, Option.bind_some, if_neg n01, e59]
        by_cases c : G = 0
        · rw [if_pos ((nJ_m1 (by omega)).mpr c), if_pos ((nJ_m1 (by omega)).mpr c)]
          exact ⟨_, _, rfl, sc_42 _ _, zi_at _ _ _ _, fun _ => rfl⟩
        · obtain ⟨q1, q2⟩ := hp c
          have hq2 := (hO.2.1 _ q1).2.1
          have eg : h.1 42 19 = nI (pg S.1) := by rw [hM.2.2.1]; exact if_neg (by omega)
          rw [if_neg (fun q => c ((nJ_m1 (by omega)).mp q)), eg, if_neg (show ¬ nI (pg S.1) = (-1 : Int32) from fun q => by rw [nI_m1, nN_eqm (by omega)] at q; exact q), if_neg (fun q => c ((nJ_m1 (by omega)).mp q)), zchk_t (zin_nI (by omega) (by omega)), nI_cl (by omega), hM.2.2.2.1 _ q1, show nX11_isIn (nJ G) 0 (nI (pq S.1 (pg S.1)) - 1) = some 1 by rw [nJ_pp (by omega)]; exact m_in q2 (by omega), Option.bind_some, if_neg n01]
          exact ⟨_, _, rfl, sc_42 _ _, zi_at _ _ _ _, fun _ => rfl⟩
    by_cases c1 : a 1 = -1
    · exact good 0 (by omega) (fun q => absurd rfl q) (by rw [c1]; rfl)
    · by_cases h9 : pg S.1 = 9
      · refine st_q (L := nL_usual (a 1) (nI f)) (M := nX11_usual (a 1) (nI f)) (cd := 2) (an := 0) hc hm ?_ ?_
        · refine cQ_r (X := nX10_usual (a 1) (nI f)) (e := "java/lang/IllegalStateException") ?_ (by rw [if_neg (by decide), if_pos rfl]) n02
          unfold nX10_usual
          rw [c_needField hO hP hf, Option.bind_some, zel_i, if_neg c1, c_needGroup9 hP h9, Option.bind_some, zel_e]
        · intro h hm2
          obtain ⟨⟨hM, hF, hNm, hBx⟩, ⟨hR2, hH2⟩, hT2, hW2, hF2⟩ := id hm2
          have eg : h.1 42 19 = -1 := by rw [hM.2.2.1]; exact if_pos h9
          unfold nX11_usual jX11_usual_59
          rw [m_isField hO hM hf, Option.bind_some, if_neg n01, if_neg c1, eg, if_pos rfl, zi_at, if_neg le2]
          exact mQ_err n02
      · have hp : pg S.1 < pn S.1 := hO.2.2.2.2.2.1.resolve_right h9
        have hq := (hO.2.1 _ hp).2.1
        rcases ix2 (a 1) (n := pq S.1 (pg S.1)) (by omega) with ⟨v, hv, e1⟩ | hno2
        · exact good (v + 1) (by omega) (fun _ => ⟨hp, by omega⟩) (by rw [e1, nJ_s])
        · refine st_q (L := nL_usual (a 1) (nI f)) (M := nX11_usual (a 1) (nI f)) (cd := 3) (an := 0) hc hm ?_ ?_
          · refine cQ_r (X := nX10_usual (a 1) (nI f)) (e := "java/lang/IllegalArgumentException") ?_ (by rw [if_neg (by decide), if_neg (by decide), if_pos rfl]) n03
            unfold nX10_usual
            rw [c_needField hO hP hf, Option.bind_some, zel_i, if_neg c1, c_needGroupN hO hP hp hno2, Option.bind_some, zel_e]
          · intro h hm2
            obtain ⟨⟨hM, hF, hNm, hBx⟩, ⟨hR2, hH2⟩, hT2, hW2, hF2⟩ := id hm2
            have eg : h.1 42 19 = nI (pg S.1) := by rw [hM.2.2.1]; exact if_neg h9
            unfold nX11_usual jX11_usual_30 jX11_usual_59
            rw [m_isField hO hM hf, Option.bind_some, if_neg n01, if_neg c1, eg, if_neg (show ¬ nI (pg S.1) = (-1 : Int32) from fun q => by rw [nI_m1, nN_eqm (by omega)] at q; exact q), if_neg c1, zchk_t (zin_nI (by omega) (by omega)), nI_cl (by omega), hM.2.2.2.1 _ hp, m_out (by omega) hno2, Option.bind_some, if_pos rfl, zi_at, if_neg le3]
            exact mQ_err n03
  · refine st_q (L := nL_usual (a 1) (a 2)) (M := nX11_usual (a 1) (a 2)) (cd := 1) (an := 0) hc hm ?_ ?_
    · exact cQ_r (X := nX10_usual (a 1) (a 2)) (by unfold nX10_usual; rw [c_needFieldN hP hno, Option.bind_some, zel_e]) (by rw [if_pos rfl]) n01
    · intro h hm2
      obtain ⟨⟨hM, hF, hNm, hBx⟩, ⟨hR2, hH2⟩, hT2, hW2, hF2⟩ := id hm2
      unfold nX11_usual jX11_usual_59
      rw [m_isFieldN hO hM hno, Option.bind_some, if_pos rfl, zi_at, if_neg le1]
      exact mQ_err n01
/-! an answer put into a row of the reference -/
theorem rOK_wa (hO : pOK P) {c f k : Nat} (hc : rOK P c) (hf : f < pn P) (hk : k ≤ pq P f) : rOK P (wa c f k) := by
  have h5 := hO.1
  have hq := (hO.2.1 f hf).2.1
  refine ⟨wa_lt hc.1 (by omega) (by omega), fun i hi => ?_, fun i hi hi5 => ?_⟩
  · rw [rv_wa (by omega) (by omega) (by omega)]
    split
    · next q => rw [q]; exact hk
    · exact hc.2.1 i hi
  · rw [rv_wa (by omega) (by omega) (by omega), if_neg (by omega)]
    exact hc.2.2 i hi hi5
theorem mR_set (hO : pOK P) (hR : mR P N r g) {i f k : Nat} (hi : i < N) (hf : f < pn P) (hk : k ≤ pq P f) : mR P N (upA r i (wa (r i) f k)) (zi g 55 (5 * i + f) (nJ k)) := by
  have h5 := hO.1
  have hq := (hO.2.1 f hf).2.1
  obtain ⟨r1, r2, r3⟩ := hR
  refine ⟨by rw [zi_cell _ _ (show 42 ≠ 55 by decide)]; exact r1, r2, fun j hj => ?_⟩
  unfold upA
  by_cases q : j = i
  · rw [if_pos q, q]
    refine ⟨fun e he => ?_, rOK_wa hO (r3 i hi).2 hf hk⟩
    rw [rv_wa (by omega) (by omega) (by omega)]
    by_cases q2 : e = f
    · rw [if_pos q2, q2, zi_at]
    · rw [if_neg q2, zi_else _ _ (fun e => by have := e.2; omega)]
      exact (r3 i hi).1 e he
  · rw [if_neg q]
    refine ⟨fun e he => ?_, (r3 j hj).2⟩
    rw [zi_else _ _ (fun x => by have := x.2; omega)]
    exact (r3 j hj).1 e he
/-- what may stand in a field -/
theorem vIn_may (hO : pOK P) {c f : Nat} (hc : rOK P c) (hf : f < pn P) (hm : mSb c (2 ^ f) (pn P) = true) : vIn P c (2 ^ f) f = bS (fun v => rgt P (wa c f (v + 1))) (pq P f) := by
  have h5 := hO.1
  have hq := (hO.2.1 f hf).2.1
  rw [mSb_iff h5] at hm
  have hrv : ∀ i, i < pn P → i ≠ f → rv c i ≠ 0 := fun i hi hif q => by
    have := hm i hi q
    rw [Nat.testBit_two_pow, decide_eq_true_eq] at this
    exact hif this.symm
  have hfull : ∀ v, v < pq P f → ∀ i, i < pn P → rv (wa c f (v + 1)) i ≠ 0 := fun v hv i hi => by
    rw [rv_wa (by omega) (by omega) (by omega)]
    split
    · omega
    · next q => exact hrv i hi q
  have hfs : ∀ v, v < pq P f → (rgt P (wa c f (v + 1)) = true ↔ fs P (fun i => rv (wa c f (v + 1)) i - 1) = 0) := fun v hv => by
    unfold rgt
    rw [(rmis_0 _ _).mpr (hfull v hv), lft_full (hfull v hv), beq_self_eq_true, Bool.true_and, beq_iff_eq]
  apply Nat.eq_of_testBit_eq
  intro v
  rw [Bool.eq_iff_iff, vIn_iff hO hc hf, bS_bit, Bool.and_eq_true, decide_eq_true_eq]
  constructor
  · rintro ⟨a, w, rfl⟩
    have hv := w.1 f hf
    refine ⟨hv, (hfs _ hv).mpr ?_⟩
    rw [← w.2.2]
    refine fs_congr P (fun i hi => ?_)
    rw [rv_wa (by omega) (by omega) (by omega)]
    by_cases q : i = f
    · rw [if_pos q, q, Nat.add_sub_cancel]
    · rw [if_neg q, w.2.1 i hi (by rw [Nat.testBit_two_pow, decide_eq_false (fun e => q e.symm)]), Nat.add_sub_cancel]
  · rintro ⟨hv, hr⟩
    refine ⟨fun i => rv (wa c f (v + 1)) i - 1, ⟨fun i hi => ?_, fun i hi hb => ?_, (hfs v hv).mp hr⟩, ?_⟩
    · have h1 := (rOK_wa hO hc hf (k := v + 1) (by omega)).2.1 i hi
      have h2 := hfull v hv i hi
      dsimp only
      omega
    · rw [Nat.testBit_two_pow, decide_eq_false_iff_not] at hb
      have q : i ≠ f := fun e => hb e.symm
      have h2 := hrv i hi q
      dsimp only
      rw [rv_wa (by omega) (by omega) (by omega), if_neg q]
      omega
    · dsimp only
      rw [rv_wa (by omega) (by omega) (by omega), if_pos rfl, Nat.add_sub_cancel]
theorem mP_55 {k : Nat} {x : Int32} (p : mP P g) : mP P (zi g 55 k x) := by
  unfold mP at p ⊢
  rw [zi_cell g x (show 42 ≠ 55 by decide), zi_cell g x (show 51 ≠ 55 by decide), zi_cell g x (show 52 ≠ 55 by decide), zi_cell g x (show 53 ≠ 55 by decide), zi_cell g x (show 54 ≠ 55 by decide), zi_cell g x (show 58 ≠ 55 by decide)]
  exact p
theorem mF_55 {k : Nat} {x : Int32} (p : mF P g) : mF P (zi g 55 k x) := by
  unfold mF at p ⊢
  rw [zi_cell g x (show 56 ≠ 55 by decide), zi_cell g x (show 57 ≠ 55 by decide)]
  exact p
theorem zi_self (g : zS) (c k : Nat) : zi g c k (g.1 c k) = g := by
  unfold zi
  refine Prod.ext (funext fun i => funext fun j => ?_) rfl
  dsimp only
  split
  · next q => rw [q.1, q.2]
  · rfl
theorem m_mayOf (hO : pOK P) (hM : mP P g) (hF : mF P g) (hR : mR P N r g) {i f : Nat} (hi : i < N) (hf : f < pn P) (hm : mSb (r i) (2 ^ f) (pn P) = true) : nX11_mayOf (nI i) (nI f) g = some (nI (vIn P (r i) (2 ^ f) f), g) := by
  have h5 := hO.1
  have hN := hR.2.1
  have hq := (hO.2.1 f hf).2.1
  have hri := (hR.2.2 i hi).2
  unfold nX11_mayOf
  rw [m_of hR h5 hi hf, Option.bind_some, vIn_may hO hri hf hm]
  rw [mSb_iff h5] at hm
  obtain ⟨rr, w, q⟩ := wh_up (step := wX11_mayOf_13 (nI i) (nI f) (nJ (rv (r i) f))) (fun v (s : Int32 × Int32 × zS) => s.1 = nI (bS (fun v => rgt P (wa (r i) f (v + 1))) v) ∧ s.2.1 = nI v ∧ ∃ x, s.2.2 = zi g 55 (5 * i + f) x) (fun rr => rr = (nI (bS (fun v => rgt P (wa (r i) f (v + 1))) (pq P f)), g)) (pq P f) (fun v s hv hI => by
    obtain ⟨i1, i2, x, i3⟩ := hI
    obtain ⟨s1, s2, s3⟩ := s
    dsimp only at i1 i2 i3
    subst i3
    have hfull : ∀ e, e < pn P → rv (wa (r i) f (v + 1)) e ≠ 0 := fun e he => by
      rw [rv_wa (by omega) (by omega) (by omega)]
      split
      · omega
      · next q2 =>
        intro q
        have := hm e he q
        rw [Nat.testBit_two_pow, decide_eq_true_eq] at this
        exact q2 this.symm
    have hR2 := mR_set hO hR hi hf (k := v + 1) (by omega)
    have er : upA r i (wa (r i) f (v + 1)) i = wa (r i) f (v + 1) := if_pos rfl
    obtain ⟨v1, v2, v3⟩ := row_form hO (rOK_wa hO hri hf (k := v + 1) (by omega)) hfull
    have hfo := m_formOf hO (mP_55 (k := 5 * i + f) (x := nJ (v + 1)) hM) hR2 hi
    rw [er, nJ_s] at hfo
    dsimp only [wX11_mayOf_13]
    rw [zchk_t (zin_nI (by omega) (by omega)), nI_cl (by omega), i2, zi_cell g x (show 51 ≠ 55 by decide), hM.2.2.2.1 f hf, if_neg (by rw [nN_le (by omega) (by omega)]; omega), show (5 : Int32) = nI 5 from rfl, nI_mul, nN_add, zchk_t (zin_nI (by omega) (by omega)), nI_cl (by omega), zi_zi, hfo, Option.bind_some, m_passes hO (mF_55 hF) v1, Option.bind_some, nI_s]
    have ep : psF P (fno (fun e => rv (wa (r i) f (v + 1)) e - 1) (pn P)) = rgt P (wa (r i) f (v + 1)) := by
      unfold psF rgt
      rw [v2, v3, (rmis_0 _ _).mpr hfull]
      rfl
    rw [ep, i1, bS_s]
    cases rgt P (wa (r i) f (v + 1)) with
    | true =>
      rw [if_neg (show ¬ (if true = true then (1 : Int32) else 0) = 0 by decide), nI_shl (by omega), nI_or]
      exact ⟨_, rfl, rfl, rfl, _, rfl⟩
    | false =>
      rw [if_pos (show (if false = true then (1 : Int32) else 0) = 0 by decide), show (0 : Int32) = nI 0 from rfl, nI_or, Nat.or_zero]
      exact ⟨_, rfl, rfl, rfl, _, rfl⟩) (fun s hI => by
    obtain ⟨i1, i2, x, i3⟩ := hI
    obtain ⟨s1, s2, s3⟩ := s
    dsimp only at i1 i2 i3
    subst i3
    dsimp only [wX11_mayOf_13]
    rw [zchk_t (zin_nI (by omega) (by omega)), nI_cl (by omega), i2, zi_cell g x (show 51 ≠ 55 by decide), hM.2.2.2.1 f hf, if_pos (Int32.le_refl _), show (5 : Int32) = nI 5 from rfl, nI_mul, nN_add, zchk_t (zin_nI (by omega) (by omega)), nI_cl (by omega), zi_zi, ← (hR.2.2 i hi).1 f hf, zi_self, i1]
    exact ⟨_, rfl, rfl⟩) (s := ((0 : Int32), (0 : Int32), g)) ⟨rfl, rfl, _, (zi_self g 55 (5 * i + f)).symm⟩
  rw [w, q]
theorem m_likely32 (hO : pOK P) (hM : mP P g) (hF : mF P g) (hR : mR P N r g) {f V : Nat} (hf : f < pn P) (hV : V < 32) : wh (wX11_likely_32 (nI f) (nI V) g) ((-1 : Int32), (0 : Int32)) = some (nJ (lkl P N r f V (pq P f)).1, g) := by
  have h5 := hO.1
  have hN := hR.2.1
  have hq := (hO.2.1 f hf).2.1
  have hin : ∀ n, (lkl P N r f V n).1 ≤ n ∧ ((lkl P N r f V n).1 = 0 → (lkl P N r f V n).2 = 0) ∧ ((lkl P N r f V n).1 ≠ 0 → (lkl P N r f V n).2 = shr P N r f ((lkl P N r f V n).1 - 1) + 1) := by
    intro n
    induction n with
    | zero => exact ⟨Nat.le_refl _, fun _ => rfl, fun q => absurd rfl q⟩
    | succ n ih =>
      rw [lkl_s]
      split
      · exact ⟨Nat.le_refl _, fun q => absurd q (Nat.succ_ne_zero n), fun _ => rfl⟩
      · exact ⟨by omega, ih.2.1, ih.2.2⟩
  refine wh_seq (fun v => (nJ (lkl P N r f V v).1, nI v)) (pq P f) (fun v hv => ?_) ?_
  · obtain ⟨j1, j2, j3⟩ := hin v
    have hs := shr_le P N r f v
    dsimp only [wX11_likely_32]
    rw [zchk_t (zin_nI (by omega) (by omega)), nI_cl (by omega), hM.2.2.2.1 f hf, if_neg (by rw [nN_le (by omega) (by omega)]; omega), m_has (by omega) (by omega), Option.bind_some, nI_s, lkl_s]
    cases hb : V.testBit v with
    | false => rw [if_pos (show (if false = true then (1 : Int32) else 0) = 0 by decide), Bool.false_and, if_neg (by decide)]
    | true =>
      rw [if_neg (show ¬ (if true = true then (1 : Int32) else 0) = 0 by decide), Bool.true_and]
      by_cases c0 : (lkl P N r f V v).1 = 0
      · rw [if_pos ((nJ_m1 (by omega)).mpr c0), j2 c0, decide_eq_true (Nat.succ_pos _), if_pos rfl]
        show _ = some (Sum.inl (nJ (v + 1), nI (v + 1)))
        rw [nJ_s]
      · have hs2 := shr_le P N r f ((lkl P N r f V v).1 - 1)
        rw [if_neg (fun q => c0 ((nJ_m1 (by omega)).mp q)), m_shareOf hO hM hF hR hf (by omega), Option.bind_some, show nX11_shareOf (nI f) (nJ (lkl P N r f V v).1) g = some (nI (shr P N r f ((lkl P N r f V v).1 - 1))) by rw [nJ_pp (by omega)]; exact m_shareOf hO hM hF hR hf (by omega), Option.bind_some, j3 c0]
        by_cases c1 : shr P N r f v ≤ shr P N r f ((lkl P N r f V v).1 - 1)
        · rw [if_pos ((nN_le (by omega) (by omega)).mpr c1), decide_eq_false (by omega), if_neg (by decide)]
        · rw [if_neg (fun q => c1 ((nN_le (by omega) (by omega)).mp q)), decide_eq_true (by omega), if_pos rfl]
          show _ = some (Sum.inl (nJ (v + 1), nI (v + 1)))
          rw [nJ_s]
  · dsimp only [wX11_likely_32]
    rw [zchk_t (zin_nI (by omega) (by omega)), nI_cl (by omega), hM.2.2.2.1 f hf, if_pos (Int32.le_refl _)]
    rfl
theorem m_wrongMay (hO : pOK P) (hM : mP P g) (hR : mR P N r g) {i f : Nat} (hi : i < N) (hf : f < pn P) : nX11_wrongMay (nI i) (nI f) g = some (if mSb (r i) (2 ^ f) (pn P) then 0 else 2) := by
  have h5 := hO.1
  unfold nX11_wrongMay
  rw [m_isRow hR hi, Option.bind_some, if_neg n01, m_isField hO hM hf, Option.bind_some, if_neg n01, m_missing hO hM hR hi, Option.bind_some, nI_shl (by omega)]
  cases hm : mSb (r i) (2 ^ f) (pn P) with
  | true => rw [if_pos ((m_miss hO).mpr hm), if_pos rfl]
  | false => rw [if_neg (fun q => by rw [(m_miss hO).mp q] at hm; cases hm), if_neg (by decide)]
theorem s_20 (a : Nat → Int32) (hv : Iv g) : ∃ r, nS_20 a g = some r ∧ Iv r := by
  obtain ⟨S, hc, hm⟩ := hv
  obtain ⟨hO, ⟨hP, hE, hC0, hL, h6, hG⟩, ⟨hR, hH, hz⟩, hT, hWr, hFl, hB⟩ := id hc
  have h5 := hO.1
  have hN := hR.2.1
  unfold nS_20
  rcases ix2 (a 1) (n := S.2.1.1) (by omega) with ⟨i, hi, e1⟩ | hno
  · have hC := hC0 (fun q => by have := (hz q).1; omega)
    have hri := (hR.2.2 i hi).2
    rw [e1]
    rcases ix2 (a 2) (n := pn S.1) (by omega) with ⟨f, hf, e2⟩ | hno2
    · rw [e2]
      have hf2 : 2 ^ f < 2 ^ pn S.1 := Nat.pow_lt_pow_right (by omega) hf
      cases hms : mSb (S.2.1.2.1 i) (2 ^ f) (pn S.1) with
      | true =>
        refine st_q (L := nL_may (nI i) (nI f)) (M := nX11_may (nI i) (nI f)) (cd := 0) (an := nI (vIn S.1 (S.2.1.2.1 i) (2 ^ f) f)) hc hm ?_ ?_
        · exact cQ_l (X := nX10_may (nI i) (nI f)) (by unfold nX10_may; rw [c_needRow hR hi, Option.bind_some, zel_i, c_needField hO hP hf, Option.bind_some, zel_i, nI_shl (by omega), c_needAnswers hO hP hR hi hms, Option.bind_some, zel_i, e_codeOf hR hi, Option.bind_some, e_valuesIn hO hP hE hC hri hf2 hf, Option.bind_some])
        · intro h hm2
          obtain ⟨⟨hM, hF, hNm, hBx⟩, ⟨hR2, hH2⟩, hT2, hW2, hF2⟩ := id hm2
          have hwm := m_wrongMay hO hM hR2 hi hf
          rw [hms, if_pos rfl] at hwm
          unfold nX11_may
          rw [hwm, Option.bind_some, zi_at, if_pos (Int32.le_refl 0), m_mayOf hO (mP_sc (sc_42 h 0) hM) (mF_sc (sc_42 h 0) hF) (mR_sc (sc_42 h 0) hR2) hi hf hms, Option.bind_some]
          exact ⟨_, _, rfl, sc_42 _ _, zi_at _ _ _ _, fun _ => rfl⟩
      | false =>
        refine st_q (L := nL_may (nI i) (nI f)) (M := nX11_may (nI i) (nI f)) (cd := 2) (an := 0) hc hm ?_ ?_
        · exact cQ_r (X := nX10_may (nI i) (nI f)) (by unfold nX10_may; rw [c_needRow hR hi, Option.bind_some, zel_i, c_needField hO hP hf, Option.bind_some, zel_i, nI_shl (by omega), c_needAnswersN hO hP hR hi hms, Option.bind_some, zel_e]) (by rw [if_neg (by decide), if_pos rfl]) n02
        · intro h hm2
          obtain ⟨⟨hM, hF, hNm, hBx⟩, ⟨hR2, hH2⟩, hT2, hW2, hF2⟩ := id hm2
          have hwm := m_wrongMay hO hM hR2 hi hf
          rw [hms, if_neg (by decide)] at hwm
          unfold nX11_may
          rw [hwm, Option.bind_some, zi_at, if_neg le2]
          exact mQ_err n02
    · refine st_q (L := nL_may (nI i) (a 2)) (M := nX11_may (nI i) (a 2)) (cd := 1) (an := 0) hc hm ?_ ?_
      · exact cQ_r (X := nX10_may (nI i) (a 2)) (by unfold nX10_may; rw [c_needRow hR hi, Option.bind_some, zel_i, c_needFieldN hP hno2, Option.bind_some, zel_e]) (by rw [if_pos rfl]) n01
      · intro h hm2
        obtain ⟨⟨hM, hF, hNm, hBx⟩, ⟨hR2, hH2⟩, hT2, hW2, hF2⟩ := id hm2
        unfold nX11_may nX11_wrongMay
        rw [m_isRow hR2 hi, Option.bind_some, if_neg n01, m_isFieldN hO hM hno2, Option.bind_some, if_pos rfl, Option.bind_some, zi_at, if_neg le1]
        exact mQ_err n01
  · refine st_q (L := nL_may (a 1) (a 2)) (M := nX11_may (a 1) (a 2)) (cd := 1) (an := 0) hc hm ?_ ?_
    · exact cQ_r (X := nX10_may (a 1) (a 2)) (by unfold nX10_may; rw [c_needRowN hR hno, Option.bind_some, zel_e]) (by rw [if_pos rfl]) n01
    · intro h hm2
      obtain ⟨⟨hM, hF, hNm, hBx⟩, ⟨hR2, hH2⟩, hT2, hW2, hF2⟩ := id hm2
      unfold nX11_may nX11_wrongMay
      rw [m_isRowN hR2 hno, Option.bind_some, if_pos rfl, Option.bind_some, zi_at, if_neg le1]
      exact mQ_err n01
theorem s_21 (a : Nat → Int32) (hv : Iv g) : ∃ r, nS_21 a g = some r ∧ Iv r := by
  obtain ⟨S, hc, hm⟩ := hv
  obtain ⟨hO, ⟨hP, hE, hC0, hL, h6, hG⟩, ⟨hR, hH, hz⟩, hT, hWr, hFl, hB⟩ := id hc
  have h5 := hO.1
  have hN := hR.2.1
  unfold nS_21
  rcases ix2 (a 1) (n := S.2.1.1) (by omega) with ⟨i, hi, e1⟩ | hno
  · have hC := hC0 (fun q => by have := (hz q).1; omega)
    have hri := (hR.2.2 i hi).2
    rw [e1]
    rcases ix2 (a 2) (n := pn S.1) (by omega) with ⟨f, hf, e2⟩ | hno2
    · rw [e2]
      have hf2 : 2 ^ f < 2 ^ pn S.1 := Nat.pow_lt_pow_right (by omega) hf
      cases hms : mSb (S.2.1.2.1 i) (2 ^ f) (pn S.1) with
      | true =>
        refine st_q (L := nL_likely (nI i) (nI f)) (M := nX11_likely (nI i) (nI f)) (cd := 0) (an := nJ (lkl S.1 S.2.1.1 S.2.1.2.1 f (vIn S.1 (S.2.1.2.1 i) (2 ^ f) f) (pq S.1 f)).1) hc hm ?_ ?_
        · exact cQ_l (X := nX10_likely (nI i) (nI f)) (by unfold nX10_likely; rw [c_needRow hR hi, Option.bind_some, zel_i, c_needField hO hP hf, Option.bind_some, zel_i, nI_shl (by omega), c_needAnswers hO hP hR hi hms, Option.bind_some, zel_i, e_codeOf hR hi, Option.bind_some, e_valuesIn hO hP hE hC hri hf2 hf, Option.bind_some, e_likeliest hO hP hE hR hf, Option.bind_some])
        · intro h hm2
          obtain ⟨⟨hM, hF, hNm, hBx⟩, ⟨hR2, hH2⟩, hT2, hW2, hF2⟩ := id hm2
          have hwm := m_wrongMay hO hM hR2 hi hf
          rw [hms, if_pos rfl] at hwm
          unfold nX11_likely
          rw [hwm, Option.bind_some, zi_at, if_pos (Int32.le_refl 0), m_mayOf hO (mP_sc (sc_42 h 0) hM) (mF_sc (sc_42 h 0) hF) (mR_sc (sc_42 h 0) hR2) hi hf hms, Option.bind_some, m_likely32 hO (mP_sc (sc_42 h 0) hM) (mF_sc (sc_42 h 0) hF) (mR_sc (sc_42 h 0) hR2) hf (vIn_lt hO hri hf)]
          exact ⟨_, _, rfl, sc_42 _ _, zi_at _ _ _ _, fun _ => rfl⟩
      | false =>
        refine st_q (L := nL_likely (nI i) (nI f)) (M := nX11_likely (nI i) (nI f)) (cd := 2) (an := 0) hc hm ?_ ?_
        · exact cQ_r (X := nX10_likely (nI i) (nI f)) (by unfold nX10_likely; rw [c_needRow hR hi, Option.bind_some, zel_i, c_needField hO hP hf, Option.bind_some, zel_i, nI_shl (by omega), c_needAnswersN hO hP hR hi hms, Option.bind_some, zel_e]) (by rw [if_neg (by decide), if_pos rfl]) n02
        · intro h hm2
          obtain ⟨⟨hM, hF, hNm, hBx⟩, ⟨hR2, hH2⟩, hT2, hW2, hF2⟩ := id hm2
          have hwm := m_wrongMay hO hM hR2 hi hf
          rw [hms, if_neg (by decide)] at hwm
          unfold nX11_likely
          rw [hwm, Option.bind_some, zi_at, if_neg le2]
          exact mQ_err n02
    · refine st_q (L := nL_likely (nI i) (a 2)) (M := nX11_likely (nI i) (a 2)) (cd := 1) (an := 0) hc hm ?_ ?_
      · exact cQ_r (X := nX10_likely (nI i) (a 2)) (by unfold nX10_likely; rw [c_needRow hR hi, Option.bind_some, zel_i, c_needFieldN hP hno2, Option.bind_some, zel_e]) (by rw [if_pos rfl]) n01
      · intro h hm2
        obtain ⟨⟨hM, hF, hNm, hBx⟩, ⟨hR2, hH2⟩, hT2, hW2, hF2⟩ := id hm2
        unfold nX11_likely nX11_wrongMay
        rw [m_isRow hR2 hi, Option.bind_some, if_neg n01, m_isFieldN hO hM hno2, Option.bind_some, if_pos rfl, Option.bind_some, zi_at, if_neg le1]
        exact mQ_err n01
  · refine st_q (L := nL_likely (a 1) (a 2)) (M := nX11_likely (a 1) (a 2)) (cd := 1) (an := 0) hc hm ?_ ?_
    · exact cQ_r (X := nX10_likely (a 1) (a 2)) (by unfold nX10_likely; rw [c_needRowN hR hno, Option.bind_some, zel_e]) (by rw [if_pos rfl]) n01
    · intro h hm2
      obtain ⟨⟨hM, hF, hNm, hBx⟩, ⟨hR2, hH2⟩, hT2, hW2, hF2⟩ := id hm2
      unfold nX11_likely nX11_wrongMay
      rw [m_isRowN hR2 hno, Option.bind_some, if_pos rfl, Option.bind_some, zi_at, if_neg le1]
      exact mQ_err n01
end S6
