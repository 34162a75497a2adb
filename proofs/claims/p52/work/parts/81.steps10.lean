
/-! ===== steps: count ===== -/
section S10
variable {S S' : zSt} {g h k : zS} {P : zPl} {N K wn : Nat} {r : Nat → Nat} {x : Int32}
/-- how many forms there are -/
def prP (P : zPl) (n : Nat) : Nat := foN (fun f a => a * pq P f) n (if pn P = 0 then 0 else 1)
theorem prP_le (hO : pOK P) : ∀ n, n ≤ pn P → prP P n ≤ 5 ^ n
  | 0, _ => by
    unfold prP foN
    by_cases q : pn P = 0
    · rw [if_pos q]; omega
    · rw [if_neg q]; omega
  | n + 1, h => by
    have ih := prP_le hO n (by omega)
    have hq := (hO.2.1 n (by omega)).2.1
    show prP P n * pq P n ≤ 5 ^ (n + 1)
    rw [Nat.pow_succ]
    exact Nat.mul_le_mul ih hq
theorem e9_allForms (hO : pOK P) (hP : cP P g) : nX6_allForms g = some (nI (prP P (pn P))) := by
  have h5 := hO.1
  have key : wh (wX6_allForms_15 g) (nI (prP P 0), 0) = some (nI (prP P (pn P))) := by
    refine wh_seq (fun i => (nI (prP P i), nI i)) (pn P) (fun i hi => ?_) ?_
    · dsimp only [wX6_allForms_15]
      rw [hP.1, if_neg (fun q => by rw [nN_le (by omega) (by omega)] at q; omega), zchk_t (zin_nI (by omega) (by omega)), nI_cl (by omega), hP.2.1 i hi, nI_mul, nI_s]
      rfl
    · dsimp only [wX6_allForms_15]
      rw [hP.1, if_pos (Int32.le_refl _)]
      rfl
  unfold nX6_allForms
  rw [hP.1, ← key]
  unfold prP foN
  by_cases q : pn P = 0
  · rw [if_pos ((nN_eq0 (by omega)).mpr q), if_pos q]; rfl
  · rw [if_neg (fun e => q ((nN_eq0 (by omega)).mp e)), if_neg q]; rfl
theorem pcn_rm (hO : pOK P) (c : Nat) : rmis c (pn P) < 64 := by
  have h5 := hO.1
  have h1 : rmis c (pn P) < 2 ^ pn P := bS_lt _ _
  have h2 : 2 ^ pn P ≤ 2 ^ 5 := Nat.pow_le_pow_right (by omega) h5
  omega
theorem sm_pcn (r : Nat → Nat) (P : zPl) (n : Nat) : sm (fun k => pcn (rmis (r k) (pn P))) n ≤ 6 * n := by
  induction n with
  | zero => exact Nat.le_refl _
  | succ n ih => rw [sm_s]; have := pcn_le (rmis (r n) (pn P)); omega
theorem e9_countMissing (hO : pOK P) (hP : cP P g) (hR : rR P N r g) : nX4_countMissing g = some (nI (sm (fun k => pcn (rmis (r k) (pn P))) N)) := by
  obtain ⟨r1, r2, r3⟩ := hR
  unfold nX4_countMissing
  refine wh_seq (fun i => (nI (sm (fun k => pcn (rmis (r k) (pn P))) i), nI i)) N (fun i hi => ?_) ?_
  · dsimp only [wX4_countMissing_4]
    rw [r1, if_neg (fun q => by rw [nN_le (by omega) (by omega)] at q; omega), zchk_t (zin_nI (by omega) (by omega)), nI_cl (by omega), (r3 i hi).1, hP.1, e_missingIn (r3 i hi).2.1 hO.1, Option.bind_some, e_bitCount (pcn_rm hO _), Option.bind_some, nN_add, nI_s]
    rfl
  · dsimp only [wX4_countMissing_4]
    rw [r1, if_pos (Int32.le_refl _)]
    rfl
theorem pqs_le (hO : pOK P) : pqs P ≤ 3125 := by
  unfold pqs
  by_cases q : pn P = 0
  · rw [if_pos q]; omega
  · rw [if_neg q, ← pss_cnt hO]; exact cnt_le _ _
theorem e9_countMendable (hO : pOK P) (h6 : g.1 20 6 = nI (pqs P)) (hR : rR P N r g) : nX4_countMendable g = some (nI (if pqs P = 0 then 0 else N)) := by
  have := pqs_le hO
  unfold nX4_countMendable
  rw [h6, hR.1]
  by_cases q : pqs P = 0
  · rw [if_pos ((nle0 (by omega)).mpr q), if_pos q]; rfl
  · rw [if_neg (fun e => q ((nle0 (by omega)).mp e)), if_neg q]
theorem wyN_full (hO : pOK P) {c : Nat} (hc : rOK P c) : wyN P c (2 ^ pn P - 1) = pss P := by
  unfold wyN
  rw [if_pos (mSb_all hO c), wy_cnt hO hc (mSb_all hO c), lft_all hO]
  rfl
/-- what count answers -/
def cA (P : zPl) (N : Nat) (r : Nat → Nat) (K wn : Nat) (x : Int32) : Int32 := if x = 0 then nI (pn P) else if x = 1 then nI (pm P) else if x = 2 then nI N else if x = 3 then nI (cnt (fun k => rgt P (r k)) N) else if x = 4 then nI (sm (fun k => pcn (rmis (r k) (pn P))) N) else if x = 5 then nI K else if x = 6 then gI (pg P) else if x = 7 then nI (prP P (pn P)) else if x = 8 then nI wn else if x = 9 then nI (wSum P (2 ^ pn P - 1) (pn P)) else if x = 10 then nI (if pqs P = 0 then 0 else N) else -1
theorem e_count (hO : pOK P) (hP : cP P g) (hE : cE P g) (h6 : g.1 20 6 = nI (pqs P)) (hR : rR P N r g) (hH : g.1 31 2 = nI K) (hW : g.1 0 11 = nI wn) : nX10_count x g = some (cA P N r K wn x) := by
  unfold nX10_count cA
  by_cases c0 : x = 0
  · rw [if_pos c0, if_pos c0, hP.1]
  · rw [if_neg c0, if_neg c0]
    by_cases c1 : x = 1
    · rw [if_pos c1, if_pos c1, hP.2.2.2.2.2.1]
    · rw [if_neg c1, if_neg c1]
      by_cases c2 : x = 2
      · rw [if_pos c2, if_pos c2, hR.1]
      · rw [if_neg c2, if_neg c2]
        by_cases c3 : x = 3
        · rw [if_pos c3, if_pos c3, e_countRight hO hP hE hR, Option.bind_some]
        · rw [if_neg c3, if_neg c3]
          by_cases c4 : x = 4
          · rw [if_pos c4, if_pos c4, e9_countMissing hO hP hR, Option.bind_some]
          · rw [if_neg c4, if_neg c4]
            by_cases c5 : x = 5
            · rw [if_pos c5, if_pos c5, hH]
            · rw [if_neg c5, if_neg c5]
              by_cases c6 : x = 6
              · rw [if_pos c6, if_pos c6, hP.2.2.2.2.1]
              · rw [if_neg c6, if_neg c6]
                by_cases c7 : x = 7
                · rw [if_pos c7, if_pos c7, e9_allForms hO hP, Option.bind_some]
                · rw [if_neg c7, if_neg c7]
                  by_cases c8 : x = 8
                  · rw [if_pos c8, if_pos c8, hW]
                  · rw [if_neg c8, if_neg c8]
                    by_cases c9 : x = 9
                    · rw [if_pos c9, if_pos c9, e_allFields hO hP, Option.bind_some, e_weightOf hO hP, Option.bind_some]
                    · rw [if_neg c9, if_neg c9]
                      by_cases c10 : x = 10
                      · rw [if_pos c10, if_pos c10, e9_countMendable hO h6 hR, Option.bind_some]
                      · rw [if_neg c10, if_neg c10]
end S10
