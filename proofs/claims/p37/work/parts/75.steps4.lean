
/-! ===== steps: of fields, least sets, alike rows, donors, patterns, shares ===== -/
section S4
variable {g h : zS} {P : zPl} {N : Nat} {r : Nat → Nat}
/-- a call and the law's look at it -/
noncomputable def stT (L M : zS → Option (Int32 × zS)) (g : zS) : Option zS := (L g).bind fun v1 => zchk (decide (v1.2.2.2.2 = g.2.2.2)) ((M v1.2).bind fun v2 => zchk (decide (v2.2.2.2.2 = v1.2.2.2.2)) ((nX11_thrown v2.2).bind fun v3 => if v3 = v1.1 then (if v1.1 = 0 then (if (lg_cmp (v2.2.2.1 72 (0 : Int32).toNatClampNeg) v2.1.toInt64) = 0 then (some v2.2) else (none)) else (some v2.2)) else (none)))
theorem st_t {L M : zS → Option (Int32 × zS)} {S : zSt} {cd an : Int32} (hc : cI S g) (hm : rI S g) (q1 : cQ L g cd an) (q2 : mQ M S cd an) : ∃ r, stT L M g = some r ∧ Iv r := st_q hc hm q1 q2
theorem gI_eq {P : zPl} (hO : pOK P) {i : Nat} (hi : i < pn P) : gI (pg P) = nI i ↔ pg P = i := by
  have h5 := hO.1
  unfold gI
  by_cases c : pg P = 9
  · rw [if_pos c]
    exact ⟨fun q => by rw [nI_m1] at q; exact (nN_eqm (by omega)).mp q.symm |>.elim, fun q => by omega⟩
  · have := hO.2.2.2.2.2.1.resolve_right c
    rw [if_neg c, nN_eq (by omega) (by omega)]
theorem c4 {w : Nat} (h : w < 4) : w = 0 ∨ w = 1 ∨ w = 2 ∨ w = 3 := by omega
theorem nIx4 {a : Int32} {n : Nat} (h : nIx a (n + 1)) (k : Nat) (hk : k ≤ n) (hn : n < 2147483647) : a ≠ nI k := fun q => by
  rcases h with h | ⟨_, h⟩
  · rw [q] at h; exact nI_nn (by omega) h
  · rw [q, nN_le (by omega) (by omega)] at h; omega
theorem s_4 (a : Nat → Int32) (hv : Iv g) : ∃ r, nS_4 a g = some r ∧ Iv r := by
  obtain ⟨S, hc, hm⟩ := hv
  obtain ⟨hO, ⟨hP, hE, hC0, hL, h6, hG⟩, ⟨hR, hH, hz⟩, hT, hWr, hFl, hB⟩ := id hc
  have h5 := hO.1
  rcases ix2 (a 1) (n := pn S.1) (by omega) with ⟨i, hi, e1⟩ | hno
  · rcases ix2 (a 2) (n := 4) (by omega) with ⟨w, hw, e2⟩ | hno2
    · unfold nS_4
      rw [e1, e2]
      have hq := hO.2.1 i hi
      refine st_q (L := nL_field (nI i) (nI w)) (M := nX11_field (nI i) (nI w)) (cd := 0) (an := if w = 0 then nI (pq S.1 i) else if w = 1 then nI (pw S.1 i) else if w = 2 then nI (ps S.1 i) else if pg S.1 = i then 1 else 0) hc hm ?_ ?_
      · refine cQ_l (X := nX10_field (nI i) (nI w)) ?_
        unfold nX10_field
        rw [c_needField hO hP hi, Option.bind_some, zel_i, zchk_t (zin_nI (by omega) (by omega)), zchk_t (zin_nI (by omega) (by omega)), zchk_t (zin_nI (by omega) (by omega)), nI_cl (by omega), hP.2.1 i hi, hP.2.2.1 i hi, hP.2.2.2.1 i hi, hP.2.2.2.2.1]
        rcases c4 hw with rfl | rfl | rfl | rfl
        · rfl
        · rfl
        · rfl
        · rw [if_neg (show ¬ nI 3 = 0 by decide), if_neg (show ¬ nI 3 = 1 by decide), if_neg (show ¬ nI 3 = 2 by decide), if_pos (show nI 3 = 3 by decide), if_neg (show ¬ 3 = 0 by decide), if_neg (show ¬ 3 = 1 by decide), if_neg (show ¬ 3 = 2 by decide)]
          by_cases c : pg S.1 = i
          · rw [if_pos ((gI_eq hO hi).mpr c), if_pos c]
          · rw [if_neg (fun q => c ((gI_eq hO hi).mp q)), if_neg c]
      · intro h hm2
        obtain ⟨⟨hM, hF, hNm, hBx⟩, ⟨hR2, hH2⟩, hT2, hW2, hF2⟩ := id hm2
        have hMz := mP_sc (sc_42 h 0) hM
        have e3 : nX11_isIn (nI w) 0 3 = some 1 := m_in1 (k := w) (n := 3) (by omega) (by omega)
        unfold nX11_field jX11_field_27
        rw [m_isField hO hM hi, Option.bind_some, if_neg n01, e3, Option.bind_some, if_neg n01, zi_at, if_pos (Int32.le_refl 0), zchk_t (zin_nI (by omega) (by omega)), zchk_t (zin_nI (by omega) (by omega)), zchk_t (zin_nI (by omega) (by omega)), nI_cl (by omega), hMz.2.2.2.1 i hi, hMz.2.2.2.2.1 i hi, hMz.2.2.2.2.2.1 i hi, hMz.2.2.1]
        rcases c4 hw with rfl | rfl | rfl | rfl
        · exact ⟨_, _, rfl, sc_42 _ _, zi_at _ _ _ _, fun _ => rfl⟩
        · exact ⟨_, _, rfl, sc_42 _ _, zi_at _ _ _ _, fun _ => rfl⟩
        · rw [if_neg (show ¬ nI 2 = 0 by decide), if_neg (show ¬ nI 2 = 1 by decide), if_pos (show nI 2 = 2 by decide), if_neg (show ¬ 2 = 0 by decide), if_neg (show ¬ 2 = 1 by decide), if_pos (show 2 = 2 from rfl)]
          by_cases c : ps S.1 i = 0
          · rw [if_pos (by rw [c]; rfl)]; exact ⟨_, _, rfl, sc_42 _ _, zi_at _ _ _ _, fun _ => by rw [c]; rfl⟩
          · rw [if_neg (fun q => c ((nN_eq0 (by omega)).mp q))]
            exact ⟨_, _, rfl, sc_42 _ _, zi_at _ _ _ _, fun _ => by rw [show ps S.1 i = 1 by omega]; rfl⟩
        · rw [if_neg (show ¬ nI 3 = 0 by decide), if_neg (show ¬ nI 3 = 1 by decide), if_neg (show ¬ nI 3 = 2 by decide), if_neg (show ¬ 3 = 0 by decide), if_neg (show ¬ 3 = 1 by decide), if_neg (show ¬ 3 = 2 by decide)]
          by_cases c : pg S.1 = i
          · rw [if_pos (show nI i = gI (pg S.1) from ((gI_eq hO hi).mpr c).symm), if_pos c]; exact ⟨_, _, rfl, sc_42 _ _, zi_at _ _ _ _, fun _ => rfl⟩
          · rw [if_neg (show ¬ nI i = gI (pg S.1) from fun q => c ((gI_eq hO hi).mp q.symm)), if_neg c]; exact ⟨_, _, rfl, sc_42 _ _, zi_at _ _ _ _, fun _ => rfl⟩
    · unfold nS_4
      rw [e1]
      have hk := nIx4 (n := 3) hno2
      refine st_q (L := nL_field (nI i) (a 2)) (M := nX11_field (nI i) (a 2)) (cd := 2) (an := 0) hc hm ?_ ?_
      · refine cQ_r (X := nX10_field (nI i) (a 2)) (e := "java/util/NoSuchElementException") ?_ (by rw [if_neg (by decide), if_pos rfl]) n02
        unfold nX10_field
        rw [c_needField hO hP hi, Option.bind_some, zel_i, if_neg (show ¬ a 2 = 0 from hk 0 (by omega) (by omega)), if_neg (show ¬ a 2 = 1 from hk 1 (by omega) (by omega)), if_neg (show ¬ a 2 = 2 from hk 2 (by omega) (by omega)), if_neg (show ¬ a 2 = 3 from hk 3 (by omega) (by omega))]
      · intro h hm2
        obtain ⟨⟨hM, hF, hNm, hBx⟩, ⟨hR2, hH2⟩, hT2, hW2, hF2⟩ := id hm2
        have e3 : nX11_isIn (a 2) 0 3 = some 0 := m_out1 (n := 3) (by omega) hno2
        unfold nX11_field jX11_field_27
        rw [m_isField hO hM hi, Option.bind_some, if_neg n01, e3, Option.bind_some, if_pos rfl, zi_at, if_neg le2]
        exact mQ_err n02
  · unfold nS_4
    refine st_q (L := nL_field (a 1) (a 2)) (M := nX11_field (a 1) (a 2)) (cd := 1) (an := 0) hc hm ?_ ?_
    · exact cQ_r (X := nX10_field (a 1) (a 2)) (by unfold nX10_field; rw [c_needFieldN hP hno, Option.bind_some, zel_e]) (by rw [if_pos rfl]) n01
    · intro h hm2
      obtain ⟨⟨hM, hF, hNm, hBx⟩, ⟨hR2, hH2⟩, hT2, hW2, hF2⟩ := id hm2
      unfold nX11_field jX11_field_27
      rw [m_isFieldN hO hM hno, Option.bind_some, if_pos rfl, zi_at, if_neg le1]
      exact mQ_err n01
theorem s_25 (a : Nat → Int32) (hv : Iv g) : ∃ r, nS_25 a g = some r ∧ Iv r := by
  obtain ⟨S, hc, hm⟩ := hv
  obtain ⟨hO, ⟨hP, hE, hC0, hL, h6, hG⟩, ⟨hR, hH, hz⟩, hT, hWr, hFl, hB⟩ := id hc
  have h5 := hO.1
  have h7 := p2n hO
  have hN := hR.2.1
  rcases ix2 (a 1) (n := S.2.1.1) (by omega) with ⟨i, hi, e1⟩ | hno
  · have hC := hC0 (fun q => by have := (hz q).1; omega)
    have hri := (hR.2.2 i hi).2
    rcases ix2 (a 2) (n := 3) (by omega) with ⟨w, hw, e2⟩ | hno2
    · unfold nS_25
      rw [e1, e2]
      have hls := ls_spec hO (S.2.1.2.1 i)
      refine st_q (L := nL_least (nI i) (nI w)) (M := nX11_least (nI i) (nI w)) (cd := 0) (an := if w = 0 then sI (ls S.1 (S.2.1.2.1 i)) else if w = 1 then wI (lw S.1 (S.2.1.2.1 i)) else nI (cnt (lsB S.1 (S.2.1.2.1 i)) (2 ^ pn S.1))) hc hm ?_ ?_
      · refine cQ_l (X := nX10_least (nI i) (nI w)) ?_
        unfold nX10_least
        rw [c_needRow hR hi, Option.bind_some, zel_i, e_codeOf hR hi, Option.bind_some, e_leastSet hO hP hE hC hL hri, e_leastWeight hO hP hE hC hL hri, e_countLeast hO hP hE hC hL hri, Option.bind_some, Option.bind_some, Option.bind_some]
        have hc3 : w = 0 ∨ w = 1 ∨ w = 2 := by omega
        rcases hc3 with rfl | rfl | rfl
        · rw [if_pos (show nI 0 = 0 from rfl), if_pos rfl]
        · rw [if_neg (show ¬ nI 1 = 0 by decide), if_pos (show nI 1 = 1 from rfl), if_neg (show ¬ 1 = 0 by decide), if_pos rfl]
        · rw [if_neg (show ¬ nI 2 = 0 by decide), if_neg (show ¬ nI 2 = 1 by decide), if_pos (show nI 2 = 2 from rfl), if_neg (show ¬ 2 = 0 by decide), if_neg (show ¬ 2 = 1 by decide)]
      · intro h hm2
        obtain ⟨⟨hM, hF, hNm, hBx⟩, ⟨hR2, hH2⟩, hT2, hW2, hF2⟩ := id hm2
        have e3 : nX11_isIn (nI w) 0 2 = some 1 := m_in1 (k := w) (n := 2) (by omega) (by omega)
        unfold nX11_least jX11_least_27
        rw [m_isRow hR2 hi, Option.bind_some, if_neg n01, e3, Option.bind_some, if_neg n01, zi_at, if_pos (Int32.le_refl 0), m_lightest hO (mP_sc (sc_42 h 0) hM) (mF_sc (sc_42 h 0) hF) (mR_sc (sc_42 h 0) hR2) hi, Option.bind_some]
        have c2 : sc h (zi (zi h 42 0 0) 42 36 (nI (lmN S.1 (S.2.1.2.1 i) (ls S.1 (S.2.1.2.1 i)) (2 ^ pn S.1)))) := sc_tr (sc_42 h 0) (sc_zi rfl _ _)
        have v0 : (zi (zi h 42 0 0) 42 36 (nI (lmN S.1 (S.2.1.2.1 i) (ls S.1 (S.2.1.2.1 i)) (2 ^ pn S.1)))).1 42 0 = 0 := by rw [zi_else _ _ (by decide), zi_at]
        have v36 : (zi (zi h 42 0 0) 42 36 (nI (lmN S.1 (S.2.1.2.1 i) (ls S.1 (S.2.1.2.1 i)) (2 ^ pn S.1)))).1 42 36 = nI (cnt (lsB S.1 (S.2.1.2.1 i)) (2 ^ pn S.1)) := by
          rw [zi_at]
          congr 1
          unfold lmN
          by_cases c9 : ls S.1 (S.2.1.2.1 i) = 99
          · rw [if_pos c9]
            have hno : ∀ T, T < 2 ^ pn S.1 → cmd S.1 (S.2.1.2.1 i) T = false := by
              rcases hls with q | q
              · exact q.2
              · omega
            exact (cnt_zero (fun T hT => by unfold lsB; rw [hno T hT, Bool.and_false])).symm
          · rw [if_neg c9]
            refine cnt_congr _ (fun T _ => ?_)
            unfold lsB lw
            rw [if_neg c9]
        dsimp only
        generalize zi (zi h 42 0 0) 42 36 (nI (lmN S.1 (S.2.1.2.1 i) (ls S.1 (S.2.1.2.1 i)) (2 ^ pn S.1))) = z at *
        have hMz := mP_sc c2 hM
        have hc3 : w = 0 ∨ w = 1 ∨ w = 2 := by omega
        rcases hls with ⟨q1, _⟩ | ⟨q1, _⟩
        · have es : sI (ls S.1 (S.2.1.2.1 i)) = -1 := by rw [q1]; rfl
          have ew : wI (lw S.1 (S.2.1.2.1 i)) = -1 := by unfold lw; rw [if_pos q1]; rfl
          rw [es, ew, v36, if_pos (show (-1 : Int32) = -1 from rfl)]
          rcases hc3 with rfl | rfl | rfl
          · rw [if_neg (show ¬ nI 0 = (2 : Int32) by decide), if_pos rfl]; exact ⟨_, _, rfl, c2, v0, fun _ => rfl⟩
          · rw [if_neg (show ¬ nI 1 = (2 : Int32) by decide), if_neg (show ¬ 1 = 0 by decide), if_pos rfl]; exact ⟨_, _, rfl, c2, v0, fun _ => rfl⟩
          · rw [if_pos (show nI 2 = (2 : Int32) from rfl), if_neg (show ¬ 2 = 0 by decide), if_neg (show ¬ 2 = 1 by decide)]; exact ⟨_, _, rfl, c2, v0, fun _ => rfl⟩
        · have q9 : ¬ ls S.1 (S.2.1.2.1 i) = 99 := by omega
          have es : sI (ls S.1 (S.2.1.2.1 i)) = nI (ls S.1 (S.2.1.2.1 i)) := if_neg q9
          have hwl := wSum_le hO (ls S.1 (S.2.1.2.1 i)) (pn S.1) (Nat.le_refl _)
          have ew : wI (lw S.1 (S.2.1.2.1 i)) = nI (wSum S.1 (ls S.1 (S.2.1.2.1 i)) (pn S.1)) := by
            unfold lw
            rw [if_neg q9]
            exact if_neg (by omega)
          rw [es, ew, v36, if_neg (show ¬ nI (ls S.1 (S.2.1.2.1 i)) = (-1 : Int32) from fun q => by rw [nI_m1, nN_eqm (by omega)] at q; exact q), m_weightOf hO hMz (by omega), Option.bind_some]
          rcases hc3 with rfl | rfl | rfl
          · rw [if_neg (show ¬ nI 0 = (2 : Int32) by decide), if_pos (show nI 0 = 0 from rfl), if_pos (show 0 = 0 from rfl)]; exact ⟨_, _, rfl, c2, v0, fun _ => rfl⟩
          · rw [if_neg (show ¬ nI 1 = (2 : Int32) by decide), if_neg (show ¬ nI 1 = 0 by decide), if_neg (show ¬ 1 = 0 by decide), if_pos (show 1 = 1 from rfl)]; exact ⟨_, _, rfl, c2, v0, fun _ => rfl⟩
          · rw [if_pos (show nI 2 = (2 : Int32) from rfl), if_neg (show ¬ 2 = 0 by decide), if_neg (show ¬ 2 = 1 by decide)]; exact ⟨_, _, rfl, c2, v0, fun _ => rfl⟩
    · unfold nS_25
      rw [e1]
      have hk := nIx4 (n := 2) hno2
      refine st_q (L := nL_least (nI i) (a 2)) (M := nX11_least (nI i) (a 2)) (cd := 2) (an := 0) hc hm ?_ ?_
      · refine cQ_r (X := nX10_least (nI i) (a 2)) (e := "java/util/NoSuchElementException") ?_ (by rw [if_neg (by decide), if_pos rfl]) n02
        unfold nX10_least
        rw [c_needRow hR hi, Option.bind_some, zel_i, e_codeOf hR hi, Option.bind_some, if_neg (show ¬ a 2 = 0 from hk 0 (by omega) (by omega)), if_neg (show ¬ a 2 = 1 from hk 1 (by omega) (by omega)), if_neg (show ¬ a 2 = 2 from hk 2 (by omega) (by omega))]
      · intro h hm2
        obtain ⟨⟨hM, hF, hNm, hBx⟩, ⟨hR2, hH2⟩, hT2, hW2, hF2⟩ := id hm2
        have e3 : nX11_isIn (a 2) 0 2 = some 0 := m_out1 (n := 2) (by omega) hno2
        unfold nX11_least jX11_least_27
        rw [m_isRow hR2 hi, Option.bind_some, if_neg n01, e3, Option.bind_some, if_pos rfl, zi_at, if_neg le2]
        exact mQ_err n02
  · unfold nS_25
    refine st_q (L := nL_least (a 1) (a 2)) (M := nX11_least (a 1) (a 2)) (cd := 1) (an := 0) hc hm ?_ ?_
    · exact cQ_r (X := nX10_least (a 1) (a 2)) (by unfold nX10_least; rw [c_needRowN hR hno, Option.bind_some, zel_e]) (by rw [if_pos rfl]) n01
    · intro h hm2
      obtain ⟨⟨hM, hF, hNm, hBx⟩, ⟨hR2, hH2⟩, hT2, hW2, hF2⟩ := id hm2
      unfold nX11_least jX11_least_27
      rw [m_isRowN hR2 hno, Option.bind_some, if_pos rfl, zi_at, if_neg le1]
      exact mQ_err n01
theorem s_30' (a : Nat → Int32) (b : Bool) (hv : Iv g) : ∃ r, stT (nL_donor (a 1) (a 2) (bI b)) (nX11_donor (a 1) (a 2) (bI b)) g = some r ∧ Iv r := by
  obtain ⟨S, hc, hm⟩ := hv
  obtain ⟨hO, ⟨hP, hE, hC0, hL, h6, hG⟩, ⟨hR, hH, hz⟩, hT, hWr, hFl, hB⟩ := id hc
  have h5 := hO.1
  have hN := hR.2.1
  rcases ix2 (a 1) (n := S.2.1.1) (by omega) with ⟨i, hi, e1⟩ | hno
  · have hC := hC0 (fun q => by have := (hz q).1; omega)
    rw [e1]
    obtain ⟨k, w, k1, k2⟩ := e_gather hO hP hE hC hL hR hi
    have hle := dGt_le S.1 S.2.1.2.1 S.2.1.1 i
    refine st_t (cd := 0) (an := if b then atI (dGt S.1 S.2.1.2.1 S.2.1.1 i).2.2 (dGt S.1 S.2.1.2.1 S.2.1.1 i).1 (a 2) else atI (dGt S.1 S.2.1.2.1 S.2.1.1 i).2.1 (dGt S.1 S.2.1.2.1 S.2.1.1 i).1 (a 2)) hc hm ?_ ?_
    · refine cQ_ls (h := k) (X := nX10_donor (nI i) (a 2) (bI b)) ?_ (fr_le kDn_Q k1)
      unfold nX10_donor
      rw [c_needRow hR hi, Option.bind_some, zel_i, w, Option.bind_some, e_rowAt k2 (by omega), e_farAt k2 (by omega), Option.bind_some, Option.bind_some]
      cases b with
      | true => rw [if_neg (fun q => absurd ((bI_0 true).mp q) (by decide)), if_pos rfl]
      | false => rw [if_pos ((bI_0 false).mpr rfl), if_neg (by decide)]
    · intro h hm2
      obtain ⟨⟨hM, hF, hNm, hBx⟩, ⟨hR2, hH2⟩, hT2, hW2, hF2⟩ := id hm2
      obtain ⟨k, w, k1, k2, k3⟩ := m_laysDonors hO (mP_sc (sc_42 h 0) hM) (mF_sc (sc_42 h 0) hF) (mR_sc (sc_42 h 0) hR2) hi
      have k0 : k.1 42 0 = 0 := k2.trans (zi_at _ _ _ _)
      unfold nX11_donor jX11_donor_14
      rw [m_isRow hR2 hi, Option.bind_some, if_neg n01, zi_at, if_pos (Int32.le_refl 0), w, Option.bind_some, k3.1]
      rcases ix2 (a 2) (n := (dGt S.1 S.2.1.2.1 S.2.1.1 i).1) (by omega) with ⟨j, hj, e2⟩ | hno2
      · obtain ⟨d1, _, d2, _⟩ := k3.2 j hj
        rw [e2, m_in hj (by omega), Option.bind_some, if_neg n01, zchk_t (zin_nI (by omega) (by omega)), zchk_t (zin_nI (by omega) (by omega)), nI_cl (by omega), d1, d2, atI_k hj (by omega), atI_k hj (by omega)]
        cases b with
        | true => rw [if_neg (fun q => absurd ((bI_0 true).mp q) (by decide)), if_pos rfl]; exact ⟨_, _, rfl, sc_tr (sc_42 h 0) k1, k0, fun _ => rfl⟩
        | false => rw [if_pos ((bI_0 false).mpr rfl), if_neg (by decide)]; exact ⟨_, _, rfl, sc_tr (sc_42 h 0) k1, k0, fun _ => rfl⟩
      · rw [m_out (by omega) hno2, Option.bind_some, if_pos rfl, atI_n hno2, atI_n hno2]
        exact ⟨_, _, rfl, sc_tr (sc_42 h 0) k1, k0, fun _ => by split <;> rfl⟩
  · refine st_t (cd := 1) (an := 0) hc hm ?_ ?_
    · exact cQ_rs (X := nX10_donor (a 1) (a 2) (bI b)) (by unfold nX10_donor; rw [c_needRowN hR hno, Option.bind_some, zel_e]) (fr_rfl _ _) (by rw [if_pos rfl]) n01
    · intro h hm2
      obtain ⟨⟨hM, hF, hNm, hBx⟩, ⟨hR2, hH2⟩, hT2, hW2, hF2⟩ := id hm2
      unfold nX11_donor jX11_donor_14
      rw [m_isRowN hR2 hno, Option.bind_some, if_pos rfl, zi_at, if_neg le1]
      exact mQ_err n01
theorem s_30 (a : Nat → Int32) (hv : Iv g) : ∃ r, nS_30 a g = some r ∧ Iv r := by
  unfold nS_30
  by_cases c : a 3 = 0
  · simp only [if_pos c]
    exact s_30' a false hv
  · simp only [if_neg c]
    exact s_30' a true hv
theorem s_38' (a : Nat → Int32) (b : Bool) (hv : Iv g) : ∃ r, stT (nL_alike (a 1) (bI b)) (nX11_alike (a 1) (bI b)) g = some r ∧ Iv r := by
  obtain ⟨S, hc, hm⟩ := hv
  obtain ⟨hO, ⟨hP, hE, hC0, hL, h6, hG⟩, ⟨hR, hH, hz⟩, hT, hWr, hFl, hB⟩ := id hc
  have h5 := hO.1
  have hN := hR.2.1
  rcases ix2 (a 1) (n := S.2.1.1) (by omega) with ⟨i, hi, e1⟩ | hno
  · rw [e1]
    obtain ⟨k, w, k1⟩ := e_countAlike hR hi
    obtain ⟨k', w', k1'⟩ := e_firstAlike hR hi
    refine st_t (cd := 0) (an := if b then nI (fwk S.2.1.1 (fun i => nI (S.2.1.2.1 i)) (nI (S.2.1.2.1 i))) else nI (cnt (fun k => decide (nI (S.2.1.2.1 k) = nI (S.2.1.2.1 i))) S.2.1.1)) hc hm ?_ ?_
    · cases b with
      | true =>
        refine cQ_ls (h := k') (X := nX10_alike (nI i) (bI true)) ?_ (fr_le k38_Q k1')
        unfold nX10_alike
        rw [c_needRow hR hi, Option.bind_some, zel_i, if_neg (fun q => absurd ((bI_0 true).mp q) (by decide)), w', Option.bind_some, if_pos rfl]
      | false =>
        refine cQ_ls (h := k) (X := nX10_alike (nI i) (bI false)) ?_ (fr_le k38_Q k1)
        unfold nX10_alike
        rw [c_needRow hR hi, Option.bind_some, zel_i, if_pos ((bI_0 false).mpr rfl), w, Option.bind_some, if_neg (by decide)]
    · intro h hm2
      obtain ⟨⟨hM, hF, hNm, hBx⟩, ⟨hR2, hH2⟩, hT2, hW2, hF2⟩ := id hm2
      have hMz := mP_sc (sc_42 h 0) hM
      have hRz := mR_sc (sc_42 h 0) hR2
      unfold nX11_alike jX11_alike_14
      rw [m_isRow hR2 hi, Option.bind_some, if_neg n01, zi_at, if_pos (Int32.le_refl 0)]
      cases b with
      | false =>
        have e : wh (wX11_alike_31 (nI i) (bI false) (zi h 42 0 0)) ((0 : Int32), (0 : Int32)) = some (nI (cnt (fun k => decide (nI (S.2.1.2.1 k) = nI (S.2.1.2.1 i))) S.2.1.1), zi h 42 0 0) := by
          refine wh_seq (fun o => (nI (cnt (fun k => decide (nI (S.2.1.2.1 k) = nI (S.2.1.2.1 i))) o), nI o)) S.2.1.1 (fun o ho => ?_) ?_
          · dsimp only [wX11_alike_31]
            rw [hRz.1, if_neg (by rw [nN_le (by omega) (by omega)]; omega), m_areAlike hO hMz hRz hi ho, Option.bind_some, nI_s o, cnt_s]
            by_cases c : nI (S.2.1.2.1 o) = nI (S.2.1.2.1 i)
            · rw [decide_eq_true c, if_neg (show ¬ (if true = true then (1 : Int32) else 0) = 0 by decide), if_pos ((bI_0 false).mpr rfl), nI_s, if_pos rfl]
            · rw [decide_eq_false c, if_pos (show (if false = true then (1 : Int32) else 0) = 0 by decide), if_neg (by decide)]
          · dsimp only [wX11_alike_31]
            rw [hRz.1, if_pos (Int32.le_refl _)]
            rfl
        rw [e]
        exact ⟨_, _, rfl, sc_42 _ _, zi_at _ _ _ _, fun _ => rfl⟩
      | true =>
        have key := wh_fst (step := wX11_alike_31 (nI i) (bI true) (zi h 42 0 0)) (fun o => decide (nI (S.2.1.2.1 o) = nI (S.2.1.2.1 i))) (fun o => ((0 : Int32), nI o)) S.2.1.1 (fun o => (nI o, zi h 42 0 0)) (0, zi h 42 0 0) (fun o ho hp => by
          dsimp only [wX11_alike_31]
          rw [hRz.1, if_neg (by rw [nN_le (by omega) (by omega)]; omega), m_areAlike hO hMz hRz hi ho, Option.bind_some, nI_s o, hp, if_pos (show (if false = true then (1 : Int32) else 0) = 0 by decide)]) (fun o ho hp => by
          dsimp only [wX11_alike_31]
          rw [hRz.1, if_neg (by rw [nN_le (by omega) (by omega)]; omega), m_areAlike hO hMz hRz hi ho, Option.bind_some, hp, if_neg (show ¬ (if true = true then (1 : Int32) else 0) = 0 by decide), if_neg (fun q => absurd ((bI_0 true).mp q) (by decide))]
          rfl) (by
          dsimp only [wX11_alike_31]
          rw [hRz.1, if_pos (Int32.le_refl _)]
          rfl)
        have hlt : fwk S.2.1.1 (fun i => nI (S.2.1.2.1 i)) (nI (S.2.1.2.1 i)) < S.2.1.1 := fwk_lt (ky := fun i => nI (S.2.1.2.1 i)) hi
        unfold fwk at hlt ⊢
        rw [show wh (wX11_alike_31 (nI i) (bI true) (zi h 42 0 0)) ((0 : Int32), (0 : Int32)) = _ from key, if_pos hlt]
        exact ⟨_, _, rfl, sc_42 _ _, zi_at _ _ _ _, fun _ => rfl⟩
  · refine st_t (cd := 1) (an := 0) hc hm ?_ ?_
    · exact cQ_rs (X := nX10_alike (a 1) (bI b)) (by unfold nX10_alike; rw [c_needRowN hR hno, Option.bind_some, zel_e]) (fr_rfl _ _) (by rw [if_pos rfl]) n01
    · intro h hm2
      obtain ⟨⟨hM, hF, hNm, hBx⟩, ⟨hR2, hH2⟩, hT2, hW2, hF2⟩ := id hm2
      unfold nX11_alike jX11_alike_14
      rw [m_isRowN hR2 hno, Option.bind_some, if_pos rfl, zi_at, if_neg le1]
      exact mQ_err n01
theorem s_38 (a : Nat → Int32) (hv : Iv g) : ∃ r, nS_38 a g = some r ∧ Iv r := by
  unfold nS_38
  by_cases c : a 2 = 0
  · simp only [if_pos c]
    exact s_38' a false hv
  · simp only [if_neg c]
    exact s_38' a true hv
theorem s_47 (a : Nat → Int32) (hv : Iv g) : ∃ r, nS_47 a g = some r ∧ Iv r := by
  obtain ⟨S, hc, hm⟩ := hv
  obtain ⟨hO, ⟨hP, hE, hC0, hL, h6, hG⟩, ⟨hR, hH, hz⟩, hT, hWr, hFl, hB⟩ := id hc
  obtain ⟨w1, w2, w3, _⟩ := hWr
  unfold nS_47
  rcases ix2 (a 1) (n := S.2.2.2.2.1) (by omega) with ⟨i, hi, e1⟩ | hno
  · rw [e1]
    refine st_p (L := nX10_octet (nI i)) (M := nX11_octet (nI i)) (an := nI (S.2.2.2.2.2.1 i)) hc hm ?_ (fun h hm2 => ?_)
    · unfold nX10_octet
      rw [if_neg (nI_nn (by omega)), w1, if_pos ((nN_lt (by omega) (by omega)).mpr hi), zchk_t (zin_nI (by omega) (by omega)), nI_cl (by omega), w3 i hi]
    · obtain ⟨_, _, _, hW2, _⟩ := id hm2
      refine ⟨zi h 42 0 0, ?_, sc_42 h 0⟩
      unfold nX11_octet
      rw [zi_else _ _ (by decide), hW2.1, m_in hi (by omega), Option.bind_some, if_neg n01, zchk_t (zin_nI (by omega) (by omega)), nI_cl (by omega), zi_cell _ _ (show 71 ≠ 42 by decide), hW2.2 i hi]
  · refine st_p (L := nX10_octet (a 1)) (M := nX11_octet (a 1)) (an := -1) hc hm ?_ (fun h hm2 => ?_)
    · unfold nX10_octet
      rw [w1]
      by_cases c : a 1 < 0
      · rw [if_pos c]
      · rw [if_neg c, if_neg (fun q => nIx_lt hno ⟨c, q⟩)]
    · obtain ⟨_, _, _, hW2, _⟩ := id hm2
      refine ⟨zi h 42 0 0, ?_, sc_42 h 0⟩
      unfold nX11_octet
      rw [zi_else _ _ (by decide), hW2.1, m_out (by omega) hno, Option.bind_some, if_pos rfl]
end S4
