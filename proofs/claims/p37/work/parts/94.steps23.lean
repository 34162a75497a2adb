
/-! ===== steps: blame ===== -/
section S23
variable {S S' : zSt} {g h k : zS} {P : zPl} {N : Nat} {r : Nat → Nat}
/-- of the boxes that hold the form, how many a field enters -/
noncomputable def enB (P : zPl) (c f i : Nat) : Bool := hlB P c i && (bk (bX P i) f != 2 ^ pq P f - 1)
noncomputable def bE (P : zPl) (c f : Nat) : Nat := cnt (enB P c f) (nB P)
/-- the field that enters most of them -/
noncomputable def blB (P : zPl) (c : Nat) : Nat → Nat
  | 0 => 0
  | n + 1 => if n = 0 then 0 else if bE P c (blB P c n) < bE P c n ∨ (bE P c n = bE P c (blB P c n) ∧ pw P n < pw P (blB P c n)) then n else blB P c n
theorem blB_lt (P : zPl) (c : Nat) : ∀ n, blB P c (n + 1) ≤ n
  | 0 => by unfold blB; rw [if_pos rfl]; exact Nat.le_refl _
  | n + 1 => by
    have ih := blB_lt P c n
    unfold blB
    rw [if_neg (by omega)]
    by_cases q : bE P c (blB P c (n + 1)) < bE P c (n + 1) ∨ (bE P c (n + 1) = bE P c (blB P c (n + 1)) ∧ pw P (n + 1) < pw P (blB P c (n + 1)))
    · rw [if_pos q]; exact Nat.le_refl _
    · rw [if_neg q]; omega
theorem blB_s (P : zPl) (c : Nat) {n : Nat} (h : n ≠ 0) : blB P c (n + 1) = if bE P c (blB P c n) < bE P c n ∨ (bE P c n = bE P c (blB P c n) ∧ pw P n < pw P (blB P c n)) then n else blB P c n := by
  show (if n = 0 then 0 else _) = _
  rw [if_neg h]
theorem en_s (P : zPl) (c f i : Nat) : cnt (enB P c f) (i + 1) = if enB P c f i then cnt (enB P c f) i + 1 else cnt (enB P c f) i := cnt_s _ _
theorem e_countEntered (hO : pOK P) {c : Nat} (hc : rOK P c) {f : Nat} (hf : f < pn P) (h1 : nX0_size g = some (nI (nB P), h)) (h2 : g.2.2.2 ≤ h.2.2.2) (h3 : nX0_size h = some (nI (nB P), h)) (hP : cP P h) (hF : lF P 33554432 h) : nX0_countEntered (nI (fmB P c)) (nI f) g = some (nI (bE P c f), h) := by
  have hb : nB P ≤ 923521 := nB_le hO
  have szs : ∀ i, nX0_size (if i = 0 then g else h) = some (nI (nB P), h) ∧ (if i = 0 then g else h).2.2.2 ≤ h.2.2.2 := fun i => by
    by_cases q : i = 0
    · rw [if_pos q]; exact ⟨h1, h2⟩
    · rw [if_neg q]; exact ⟨h3, Nat.le_refl _⟩
  unfold nX0_countEntered
  refine wh_seq (fun i => (nI (cnt (enB P c f) i), nI i, if i = 0 then g else h)) (nB P) (fun i hi => ?_) ?_
  · obtain ⟨w1, w2⟩ := szs i
    obtain ⟨l1, l2⟩ := lF_at hO hF hi
    have hq := (hO.2.1 f hf).2.1
    have q1 : 2 ^ pq P f ≤ 32 := Nat.pow_le_pow_right (n := 2) (by omega) (show pq P f ≤ 5 from hq)
    have q2 := bk_lt (bX P i) f
    dsimp only [wX0_countEntered_5]
    rw [w1, Option.bind_some, zchk_t (decide_eq_true w2), if_neg (fun q => by rw [nN_le (by omega) (by omega)] at q; omega), zchk_t l2, nI_cl (by omega), l1, en_s, show (if i + 1 = 0 then g else h) = h from if_neg (by omega)]
    unfold enB
    by_cases q2 : hlB P c i = true
    · rw [if_pos ((sub_not31 (fmB_lt hO hc)).mpr ((fm_in hO hc).mpr q2)), e_setOf hO hF hi hf, Option.bind_some, e_allValues hO hP hf, Option.bind_some, q2, Bool.true_and]
      by_cases q3 : bk (bX P i) f = 2 ^ pq P f - 1
      · rw [if_pos (by rw [q3]), if_neg (by rw [bne_iff_ne]; exact fun e => e q3), nI_s]
      · rw [if_neg (fun e => q3 ((nN_eq (by omega) (by omega)).mp e)), if_pos (by rw [bne_iff_ne]; exact q3), nI_s, nI_s]
    · rw [if_neg (fun e => q2 ((fm_in hO hc).mp ((sub_not31 (fmB_lt hO hc)).mp e))), show hlB P c i = false from by rw [← Bool.not_eq_true]; exact q2, Bool.false_and, if_neg (by decide), nI_s]
  · obtain ⟨w1, w2⟩ := szs (nB P)
    dsimp only [wX0_countEntered_5]
    rw [w1, Option.bind_some, zchk_t (decide_eq_true w2), if_pos (Int32.le_refl _)]
    rfl
/-- the field to blame -/
noncomputable def blA (P : zPl) (c : Nat) : Int32 := if pn P = 0 then -1 else if bE P c (blB P c (pn P)) = 0 then -1 else nI (blB P c (pn P))
/-- the class's best so far -/
noncomputable def bSt (P : zPl) (c n : Nat) : Int32 × Int32 := if n = 0 then (-1, 0) else if bE P c (blB P c n) = 0 then (-1, 0) else (nI (blB P c n), nI (bE P c (blB P c n)))
theorem bE_le (hO : pOK P) (c f : Nat) : bE P c f ≤ 923521 := Nat.le_trans (cnt_le _ _) (nB_le hO)
theorem e_blamed (hO : pOK P) (hP : cP P g) {c : Nat} (hc : rOK P c) (hfull : ∀ f, f < pn P → rv c f ≠ 0) (h1 : nX0_size g = some (nI (nB P), h)) (h2 : g.2.2.2 ≤ h.2.2.2) (h3 : nX0_size h = some (nI (nB P), h)) (hPh : cP P h) (hF : lF P 33554432 h) : nX0_blamed (nI c) g = some (blA P c, if pn P = 0 then g else h) := by
  have h5 := hO.1
  have szs : ∀ i, nX0_size (if i = 0 then g else h) = some (nI (nB P), h) ∧ (if i = 0 then g else h).2.2.2 ≤ h.2.2.2 ∧ cP P (if i = 0 then g else h) := fun i => by
    by_cases q : i = 0
    · rw [if_pos q]; exact ⟨h1, h2, hP⟩
    · rw [if_neg q]; exact ⟨h3, Nat.le_refl _, hPh⟩
  unfold nX0_blamed
  refine wh_seq (fun i => ((bSt P c i).1, (bSt P c i).2, nI i, if i = 0 then g else h)) (pn P) (fun i hi => ?_) ?_
  · obtain ⟨w1, w2, w3⟩ := szs i
    have hwi := hO.2.1 i hi
    have e1 : nX0_formOf (nI c) (if i = 0 then g else h) = some (nI (fmB P c)) := e_formOf hO w3 hc hfull
    have e2 : nX0_countEntered (nI (fmB P c)) (nI i) (if i = 0 then g else h) = some (nI (bE P c i), h) := e_countEntered hO hc hi w1 w2 h3 hPh hF
    have b1 := bE_le hO c i
    have b2 := bE_le hO c (blB P c i)
    dsimp only [wX0_blamed_7]
    rw [w3.1, if_neg (fun q => by rw [nN_le (by omega) (by omega)] at q; omega), e1, Option.bind_some, e2, Option.bind_some, zchk_t (decide_eq_true w2), show (if i + 1 = 0 then g else h) = h from if_neg (by omega)]
    unfold jX0_blamed_63 jX0_blamed_64
    by_cases z : i = 0 ∨ bE P c (blB P c i) = 0
    · have es : bSt P c i = (-1, 0) := by
        unfold bSt
        rcases z with z | z
        · rw [if_pos z]
        · by_cases z2 : i = 0
          · rw [if_pos z2]
          · rw [if_neg z2, if_pos z]
      rw [es]
      dsimp only
      rw [if_pos rfl]
      by_cases q : bE P c i = 0
      · have en : bSt P c (i + 1) = (-1, 0) := by
          unfold bSt
          rw [if_neg (by omega)]
          have : bE P c (blB P c (i + 1)) = 0 := by
            by_cases z2 : i = 0
            · rw [z2] at q ⊢
              show bE P c (if 0 = 0 then 0 else _) = 0
              rw [if_pos rfl]; exact q
            · rw [blB_s P c z2]
              have z3 := z.resolve_left z2
              split
              · exact q
              · exact z3
          rw [if_pos this]
        rw [en, if_neg (show ¬ (0 : Int32) < nI (bE P c i) by rw [q]; decide), if_pos (show nI (bE P c i) = 0 by rw [q]; rfl), if_pos rfl, nI_s]
      · have en : bSt P c (i + 1) = (nI i, nI (bE P c i)) := by
          have e3 : blB P c (i + 1) = i := by
            by_cases z2 : i = 0
            · rw [z2]
              show (if 0 = 0 then 0 else _) = 0
              rw [if_pos rfl]
            · rw [blB_s P c z2, if_pos (Or.inl (by rw [z.resolve_left z2]; omega))]
          unfold bSt
          rw [if_neg (by omega), e3, if_neg q]
        rw [en, if_pos (show (0 : Int32) < nI (bE P c i) from (nN_lt (a := 0) (by omega) (by omega)).mpr (by omega)), nI_s]
    · have z2 : i ≠ 0 := fun e => z (Or.inl e)
      have z3 : bE P c (blB P c i) ≠ 0 := fun e => z (Or.inr e)
      have hl : blB P c i < i := by
        obtain ⟨j, e⟩ : ∃ j, i = j + 1 := ⟨i - 1, by omega⟩
        rw [e]
        have := blB_lt P c j
        omega
      have hwb := hO.2.1 (blB P c i) (by omega)
      have es : bSt P c i = (nI (blB P c i), nI (bE P c (blB P c i))) := by
        unfold bSt
        rw [if_neg z2, if_neg z3]
      rw [es]
      dsimp only
      rw [if_neg (fun q : nI (blB P c i) = (-1 : Int32) => by rw [nI_m1, nN_eqm (by omega)] at q; exact q), zchk_t (zin_nI (by omega) (by omega)), zchk_t (zin_nI (by omega) (by omega)), nI_cl (by omega), nI_cl (by omega), hPh.2.2.1 _ (by omega), hPh.2.2.1 i hi]
      by_cases q : bE P c (blB P c i) < bE P c i ∨ (bE P c i = bE P c (blB P c i) ∧ pw P i < pw P (blB P c i))
      · have e3 : blB P c (i + 1) = i := by rw [blB_s P c z2, if_pos q]
        have en : bSt P c (i + 1) = (nI i, nI (bE P c i)) := by
          unfold bSt
          rw [if_neg (by omega), e3, if_neg (by omega)]
        rw [en]
        by_cases q1 : bE P c (blB P c i) < bE P c i
        · rw [if_pos ((nN_lt (by omega) (by omega)).mpr q1), if_pos ((nN_lt (by omega) (by omega)).mpr q1), nI_s]
          split <;> rfl
        · have q2 := q.resolve_left q1
          rw [if_neg (fun e => by rw [nN_le (by omega) (by omega)] at e; omega), if_neg (fun e => q1 ((nN_lt (by omega) (by omega)).mp e)), if_pos (by rw [q2.1]), if_neg n01, nI_s]
      · have e3 : blB P c (i + 1) = blB P c i := by rw [blB_s P c z2, if_neg q]
        have en : bSt P c (i + 1) = (nI (blB P c i), nI (bE P c (blB P c i))) := by
          unfold bSt
          rw [if_neg (by omega), e3, if_neg z3]
        rw [en]
        have q1 : ¬ bE P c (blB P c i) < bE P c i := fun e => q (Or.inl e)
        by_cases q2 : bE P c i = bE P c (blB P c i)
        · have q3 : ¬ pw P i < pw P (blB P c i) := fun e => q (Or.inr ⟨q2, e⟩)
          rw [if_pos ((nN_le (by omega) (by omega)).mpr (by omega)), if_neg (fun e => q1 ((nN_lt (by omega) (by omega)).mp e)), if_pos (by rw [q2]), if_pos rfl, nI_s]
        · have q4 : ¬ nI (bE P c i) = nI (bE P c (blB P c i)) := fun e => q2 ((nN_eq (by omega) (by omega)).mp e)
          rw [if_neg (fun e => q1 ((nN_lt (by omega) (by omega)).mp e)), if_neg q4, if_neg (fun e => q1 ((nN_lt (by omega) (by omega)).mp e)), if_neg q4, nI_s]
          split <;> rfl
  · obtain ⟨w1, w2, w3⟩ := szs (pn P)
    dsimp only [wX0_blamed_7]
    rw [w3.1, if_pos (Int32.le_refl _)]
    unfold blA bSt
    by_cases z : pn P = 0
    · rw [if_pos z, if_pos z, if_pos z]; rfl
    · rw [if_neg z, if_neg z, if_neg z]
      by_cases z2 : bE P c (blB P c (pn P)) = 0
      · rw [if_pos z2, if_pos z2]; rfl
      · rw [if_neg z2, if_neg z2]; rfl
end S23
