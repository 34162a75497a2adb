
/-! ===== steps: count ===== -/
section S10
variable {S S' : zSt} {g h k : zS} {P : zPl} {N K wn : Nat} {r : Nat → Nat} {x : Int32}
/-- how many forms there are -/
def prP (P : zPl) (n : Nat) : Nat := foN (fun f a => a * pq P f) n (if pn P = 0 then 0 else 1)
theorem prP_le (hO : pOK P) : ∀ n, n ≤ pn P → prP P n ≤ 5 ^ n
  | 0, _ => by
    unfold prP foN
    by_cases q : pn P = 0
    · rw [if_pos q]; omega
    · rw [if_neg q]; omega
  | n + 1, h => by
    have ih := prP_le hO n (by omega)
    have hq := (hO.2.1 n (by omega)).2.1
    show prP P n * pq P n ≤ 5 ^ (n + 1)
    rw [Nat.pow_succ]
    exact Nat.mul_le_mul ih hq
theorem e9_allForms (hO : pOK P) (hP : cP P g) : nX6_allForms g = some (nI (prP P (pn P))) := by
  have h5 := hO.1
  have key : wh (wX6_allForms_15 g) (nI (prP P 0), 0) = some (nI (prP P (pn P))) := by
    refine wh_seq (fun i => (nI (prP P i), nI i)) (pn P) (fun i hi => ?_) ?_
    · dsimp only [wX6_allForms_15]
      rw [hP.1, if_neg (fun q => by rw [nN_le (by omega) (by omega)] at q; omega), zchk_t (zin_nI (by omega) (by omega)), nI_cl (by omega), hP.2.1 i hi, nI_mul, nI_s]
      rfl
    · dsimp only [wX6_allForms_15]
      rw [hP.1, if_pos (Int32.le_refl _)]
      rfl
  unfold nX6_allForms
  rw [hP.1, ← key]
  unfold prP foN
  by_cases q : pn P = 0
  · rw [if_pos ((nN_eq0 (by omega)).mpr q), if_pos q]; rfl
  · rw [if_neg (fun e => q ((nN_eq0 (by omega)).mp e)), if_neg q]; rfl
theorem pcn_rm (hO : pOK P) (c : Nat) : rmis c (pn P) < 64 := by
  have h5 := hO.1
  have h1 : rmis c (pn P) < 2 ^ pn P := bS_lt _ _
  have h2 : 2 ^ pn P ≤ 2 ^ 5 := Nat.pow_le_pow_right (by omega) h5
  omega
theorem sm_pcn (r : Nat → Nat) (P : zPl) (n : Nat) : sm (fun k => pcn (rmis (r k) (pn P))) n ≤ 6 * n := by
  induction n with
  | zero => exact Nat.le_refl _
  | succ n ih => rw [sm_s]; have := pcn_le (rmis (r n) (pn P)); omega
theorem e9_countMissing (hO : pOK P) (hP : cP P g) (hR : rR P N r g) : nX4_countMissing g = some (nI (sm (fun k => pcn (rmis (r k) (pn P))) N)) := by
  obtain ⟨r1, r2, r3⟩ := hR
  unfold nX4_countMissing
  refine wh_seq (fun i => (nI (sm (fun k => pcn (rmis (r k) (pn P))) i), nI i)) N (fun i hi => ?_) ?_
  · dsimp only [wX4_countMissing_4]
    rw [r1, if_neg (fun q => by rw [nN_le (by omega) (by omega)] at q; omega), zchk_t (zin_nI (by omega) (by omega)), nI_cl (by omega), (r3 i hi).1, hP.1, e_missingIn (r3 i hi).2.1 hO.1, Option.bind_some, e_bitCount (pcn_rm hO _), Option.bind_some, nN_add, nI_s]
    rfl
  · dsimp only [wX4_countMissing_4]
    rw [r1, if_pos (Int32.le_refl _)]
    rfl
theorem pqs_le (hO : pOK P) : pqs P ≤ 3125 := by
  unfold pqs
  by_cases q : pn P = 0
  · rw [if_pos q]; omega
  · rw [if_neg q, ← pss_cnt hO]; exact cnt_le _ _
theorem e9_countMendable (hO : pOK P) (h6 : g.1 20 6 = nI (pqs P)) (hR : rR P N r g) : nX4_countMendable g = some (nI (if pqs P = 0 then 0 else N)) := by
  have := pqs_le hO
  unfold nX4_countMendable
  rw [h6, hR.1]
  by_cases q : pqs P = 0
  · rw [if_pos ((nle0 (by omega)).mpr q), if_pos q]; rfl
  · rw [if_neg (fun e => q ((nle0 (by omega)).mp e)), if_neg q]
theorem wyN_full (hO : pOK P) {c : Nat} (hc : rOK P c) : wyN P c (2 ^ pn P - 1) = pss P := by
  unfold wyN
  rw [if_pos (mSb_all hO c), wy_cnt hO hc (mSb_all hO c), lft_all hO]
  rfl
theorem m_full (hO : pOK P) (hM : mP P g) : nX11_weightOf (((1 : Int32) <<< (nI (pn P) &&& 31)) - (1 : Int32)) g = some (nI (wSum P (2 ^ pn P - 1) (pn P))) := by
  have h5 := hO.1
  have h2 : 2 ^ pn P ≤ 2 ^ 5 := Nat.pow_le_pow_right (by omega) h5
  have h1 : 0 < 2 ^ pn P := Nat.pow_pos (by omega)
  rw [nI_shl (by omega), show nI (2 ^ pn P) - 1 = nI (2 ^ pn P - 1) from nI_sub (b := 1) h1, m_weightOf hO hM (by omega)]
/-- what count answers -/
def cA (P : zPl) (N : Nat) (r : Nat → Nat) (K wn : Nat) (x : Int32) : Int32 := if x = 0 then nI (pn P) else if x = 1 then nI (pm P) else if x = 2 then nI N else if x = 3 then nI (cnt (fun k => rgt P (r k)) N) else if x = 4 then nI (sm (fun k => pcn (rmis (r k) (pn P))) N) else if x = 5 then nI K else if x = 6 then gI (pg P) else if x = 7 then nI (prP P (pn P)) else if x = 8 then nI wn else if x = 9 then nI (wSum P (2 ^ pn P - 1) (pn P)) else if x = 10 then nI (if pqs P = 0 then 0 else N) else -1
theorem e_count (hO : pOK P) (hP : cP P g) (hE : cE P g) (h6 : g.1 20 6 = nI (pqs P)) (hR : rR P N r g) (hH : g.1 31 2 = nI K) (hW : g.1 0 11 = nI wn) : nX10_count x g = some (cA P N r K wn x) := by
  unfold nX10_count cA
  by_cases c0 : x = 0
  · rw [if_pos c0, if_pos c0, hP.1]
  · rw [if_neg c0, if_neg c0]
    by_cases c1 : x = 1
    · rw [if_pos c1, if_pos c1, hP.2.2.2.2.2.1]
    · rw [if_neg c1, if_neg c1]
      by_cases c2 : x = 2
      · rw [if_pos c2, if_pos c2, hR.1]
      · rw [if_neg c2, if_neg c2]
        by_cases c3 : x = 3
        · rw [if_pos c3, if_pos c3, e_countRight hO hP hE hR, Option.bind_some]
        · rw [if_neg c3, if_neg c3]
          by_cases c4 : x = 4
          · rw [if_pos c4, if_pos c4, e9_countMissing hO hP hR, Option.bind_some]
          · rw [if_neg c4, if_neg c4]
            by_cases c5 : x = 5
            · rw [if_pos c5, if_pos c5, hH]
            · rw [if_neg c5, if_neg c5]
              by_cases c6 : x = 6
              · rw [if_pos c6, if_pos c6, hP.2.2.2.2.1]
              · rw [if_neg c6, if_neg c6]
                by_cases c7 : x = 7
                · rw [if_pos c7, if_pos c7, e9_allForms hO hP, Option.bind_some]
                · rw [if_neg c7, if_neg c7]
                  by_cases c8 : x = 8
                  · rw [if_pos c8, if_pos c8, hW]
                  · rw [if_neg c8, if_neg c8]
                    by_cases c9 : x = 9
                    · rw [if_pos c9, if_pos c9, e_allFields hO hP, Option.bind_some, e_weightOf hO hP, Option.bind_some]
                    · rw [if_neg c9, if_neg c9]
                      by_cases c10 : x = 10
                      · rw [if_pos c10, if_pos c10, e9_countMendable hO h6 hR, Option.bind_some]
                      · rw [if_neg c10, if_neg c10]
theorem m_j142 (hO : pOK P) (hM : mP P g) (hR : mR P N r g) (hH : g.1 42 32 = nI K) (hW : g.1 42 46 = nI wn) {a b c : Int32} (h3 : x = 3 → a = nI (cnt (fun k => rgt P (r k)) N)) (h4 : x = 4 → b = nI (sm (fun k => pcn (rmis (r k) (pn P))) N)) (h10 : x = 10 → c = nI (if pqs P = 0 then 0 else N)) : jX11_count_142 x a b c (nI (prP P (pn P))) g = some (cA P N r K wn x, g) := by
  unfold jX11_count_142 cA
  by_cases c0 : x = 0
  · rw [if_pos c0, if_pos c0, hM.1]
  · rw [if_neg c0, if_neg c0]
    by_cases c1 : x = 1
    · rw [if_pos c1, if_pos c1, hM.2.1]
    · rw [if_neg c1, if_neg c1]
      by_cases c2 : x = 2
      · rw [if_pos c2, if_pos c2, hR.1]
      · rw [if_neg c2, if_neg c2]
        by_cases c3 : x = 3
        · rw [if_pos c3, if_pos c3, h3 c3]
        · rw [if_neg c3, if_neg c3]
          by_cases c4 : x = 4
          · rw [if_pos c4, if_pos c4, h4 c4]
          · rw [if_neg c4, if_neg c4]
            by_cases c5 : x = 5
            · rw [if_pos c5, if_pos c5, hH]
            · rw [if_neg c5, if_neg c5]
              by_cases c6 : x = 6
              · rw [if_pos c6, if_pos c6, hM.2.2.1]
              · rw [if_neg c6, if_neg c6]
                by_cases c7 : x = 7
                · rw [if_pos c7, if_pos c7]
                · rw [if_neg c7, if_neg c7]
                  by_cases c8 : x = 8
                  · rw [if_pos c8, if_pos c8, hW]
                  · rw [if_neg c8, if_neg c8]
                    by_cases c9 : x = 9
                    · rw [if_pos c9, if_pos c9, hM.1, m_full hO hM, Option.bind_some]
                    · rw [if_neg c9, if_neg c9]
                      by_cases c10 : x = 10
                      · rw [if_pos c10, if_pos c10, h10 c10]
                      · rw [if_neg c10, if_neg c10]
theorem m_count (hO : pOK P) (hM : mP P g) (hF : mF P g) (hR : mR P N r g) (hn : pn P = 0 → N = 0) (hH : g.1 42 32 = nI K) (hW : g.1 42 46 = nI wn) : wh (wX11_count_59 x (nI (prP P (pn P))) g) ((0 : Int32), (0 : Int32), (0 : Int32), (0 : Int32)) = some (cA P N r K wn x, g) := by
  have h5 := hO.1
  have hN := hR.2.1
  by_cases c11 : (11 : Int32) ≤ x
  · have hk : ∀ k : Int32, k < 11 → x ≠ k := fun k hk e => by
      rw [e] at c11
      exact absurd c11 (Int32.not_le.mpr hk)
    refine wh_out ?_
    unfold wX11_count_59
    dsimp only
    have fin := m_j142 (x := x) (a := 0) (b := 0) (c := 0) hO hM hR hH hW (fun e => (hk 3 (by decide) e).elim) (fun e => (hk 4 (by decide) e).elim) (fun e => (hk 10 (by decide) e).elim)
    by_cases q : g.1 42 18 ≤ 0
    · rw [if_pos q, fin]; rfl
    · rw [if_neg q, if_pos c11, fin]; rfl
  · have hz0 : (if x = 10 then (if pss P = 0 then 0 else 0) else 0) = 0 := by
      by_cases c : x = 10
      · rw [if_pos c]; by_cases z : pss P = 0
        · rw [if_pos z]
        · rw [if_neg z]
      · rw [if_neg c]
    rw [show ((0 : Int32), (0 : Int32), (0 : Int32), (0 : Int32)) = (nI (cnt (fun k => rgt P (r k)) 0), nI (sm (fun k => pcn (rmis (r k) (pn P))) 0), nI (if x = 10 then (if pss P = 0 then 0 else 0) else 0), nI 0) by rw [hz0]; rfl]
    refine wh_seq (fun i => (nI (cnt (fun k => rgt P (r k)) i), nI (sm (fun k => pcn (rmis (r k) (pn P))) i), nI (if x = 10 then (if pss P = 0 then 0 else i) else 0), nI i)) N (fun i hi => ?_) ?_
    · unfold wX11_count_59
      dsimp only
      have hs := sm_pcn r P i
      have hps : pss P ≤ 3125 := by rw [← pss_cnt hO]; exact cnt_le _ _
      rw [hR.1, if_neg (fun q => by rw [nN_le (by omega) (by omega)] at q; omega), if_neg c11, m_passesRow hO hM hF hR hi, Option.bind_some]
      have fin : ∀ b : Bool, jX11_count_89 x (nI (sm (fun k => pcn (rmis (r k) (pn P))) i)) (nI (if x = 10 then (if pss P = 0 then 0 else i) else 0)) (nI (prP P (pn P))) (nI i) (nI (cnt (fun k => rgt P (r k)) i)) (if b then 1 else 0) g = some (.inl (nI (if b then cnt (fun k => rgt P (r k)) i + 1 else cnt (fun k => rgt P (r k)) i), nI (sm (fun k => pcn (rmis (r k) (pn P))) (i + 1)), nI (if x = 10 then (if pss P = 0 then 0 else i + 1) else 0), nI (i + 1))) := fun b => by
        have eb : nI (cnt (fun k => rgt P (r k)) i) + (if b then (1 : Int32) else 0) = nI (if b then cnt (fun k => rgt P (r k)) i + 1 else cnt (fun k => rgt P (r k)) i) := by
          cases b with
          | true => exact nI_s _
          | false => exact Int32.add_zero _
        unfold jX11_count_89
        rw [m_missing hO hM hR hi, Option.bind_some, m_bits (pcn_rm hO _), Option.bind_some, hM.1]
        by_cases c10 : x = 10
        · have h2 : 2 ^ pn P ≤ 2 ^ 5 := Nat.pow_le_pow_right (by omega) h5
          have h1 : 0 < 2 ^ pn P := Nat.pow_pos (by omega)
          rw [if_pos c10, nI_shl (by omega), show nI (2 ^ pn P) - 1 = nI (2 ^ pn P - 1) from nI_sub (b := 1) h1, m_waysOf hO hM hF hR hi (by omega), Option.bind_some, wyN_full hO (hR.2.2 i hi).2, if_pos c10, if_pos c10, eb, nN_add, nI_s]
          by_cases z : pss P = 0
          · rw [if_pos ((nle0 (by omega)).mpr z), if_pos z, if_pos z]
            rfl
          · rw [if_neg (fun e => z ((nle0 (by omega)).mp e)), if_neg z, if_neg z, nI_s]
            rfl
        · rw [if_neg c10, if_neg c10, if_neg c10, eb, nN_add, nI_s, Int32.add_zero]
          rfl
      have e1 : ∀ b : Bool, rgt P (r i) = b → nI (if b then cnt (fun k => rgt P (r k)) i + 1 else cnt (fun k => rgt P (r k)) i) = nI (cnt (fun k => rgt P (r k)) (i + 1)) := fun b hb => by rw [cnt_s, hb]
      rw [← e1 _ rfl]
      cases hb : rgt P (r i) with
      | true => rw [if_neg (show ¬ (if true = true then (1 : Int32) else 0) = 0 by decide)]; exact fin true
      | false => rw [if_pos (show (if false = true then (1 : Int32) else 0) = 0 by decide)]; exact fin false
    · unfold wX11_count_59
      dsimp only
      rw [hR.1, if_pos (Int32.le_refl _), m_j142 hO hM hR hH hW (fun _ => rfl) (fun _ => rfl) (fun e => ?_)]
      · rfl
      · rw [if_pos e]
        congr 1
        unfold pqs
        by_cases z : pn P = 0
        · rw [if_pos z, hn z]
          by_cases w : pss P = 0
          · rw [if_pos w, if_pos rfl]
          · rw [if_neg w, if_pos rfl]
        · rw [if_neg z]
theorem s_48 (a : Nat → Int32) (hv : Iv g) : ∃ r, nS_48 a g = some r ∧ Iv r := by
  obtain ⟨S, hc, hm⟩ := hv
  obtain ⟨hO, ⟨hP, hE, hC0, hL, h6, hG⟩, ⟨hR, hH, hz⟩, hT, hWr, hFl, hB⟩ := id hc
  have h5 := hO.1
  unfold nS_48
  refine st_p (S := S) (L := nX10_count (a 1)) (M := nX11_count (a 1)) (an := cA S.1 S.2.1.1 S.2.1.2.1 S.2.1.2.2.1 S.2.2.2.2.1 (a 1)) hc hm (e_count hO hP hE h6 hR hH.1 hWr.1) ?_
  intro h hm2
  obtain ⟨⟨hM, hF, hNm, hBx⟩, ⟨hR2, hH2⟩, hT2, hW2, hF2⟩ := id hm2
  have hMz := mP_sc (sc_42 h 0) hM
  have hFz := mF_sc (sc_42 h 0) hF
  have hRz := mR_sc (sc_42 h 0) hR2
  refine ⟨zi h 42 0 0, ?_, sc_42 h 0⟩
  have key : wh (wX11_count_29 (a 1) 0 0 0 (zi h 42 0 0)) (nI (prP S.1 0), (0 : Int32)) = some (cA S.1 S.2.1.1 S.2.1.2.1 S.2.1.2.2.1 S.2.2.2.2.1 (a 1), zi h 42 0 0) := by
    refine wh_seq (fun i => (nI (prP S.1 i), nI i)) (pn S.1) (fun i hi => ?_) ?_
    · unfold wX11_count_29
      dsimp only
      rw [hMz.1, if_neg (fun q => by rw [nN_le (by omega) (by omega)] at q; omega), zchk_t (zin_nI (by omega) (by omega)), nI_cl (by omega), hMz.2.2.2.1 i hi, nI_mul, nI_s]
      rfl
    · unfold wX11_count_29
      dsimp only
      rw [hMz.1, if_pos (Int32.le_refl _), m_count hO hMz hFz hRz (fun e => (hz e).1) (by rw [zi_else _ _ (by decide)]; exact hH2.1) (by rw [zi_else _ _ (by decide)]; exact hW2.1)]
      rfl
  unfold nX11_count
  rw [hMz.1, ← key]
  unfold prP foN
  by_cases q : pn S.1 = 0
  · rw [if_pos ((nN_eq0 (by omega)).mpr q), if_pos q]; rfl
  · rw [if_neg (fun e => q ((nN_eq0 (by omega)).mp e)), if_neg q]; rfl
end S10
