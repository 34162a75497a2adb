
/-! ===== steps: name ===== -/
section S18
variable {S S' : zSt} {g h k : zS} {P : zPl}
def nL (m : Nat) : Int64 := (nI m).toInt64
theorem nI_toI9 {m : Nat} (h : m < 2147483648) : (nI m).toInt = m := Int32.toInt_ofNat_of_lt h
theorem nL_toInt {m : Nat} (h : m < 2147483648) : (nL m).toInt = m := by
  unfold nL
  rw [Int32.toInt_toInt64, nI_toI9 h]
theorem nL_div {m : Nat} (h : m < 2147483648) : nL m / 32 = nL (m / 32) := by
  apply Int64.toInt.inj
  rw [Int64.toInt_div, nL_toInt h, nL_toInt (by omega), show (32 : Int64).toInt = 32 from rfl, Int.tdiv_eq_ediv_of_nonneg (by omega)]
  rw [show ((m : Int) / 32) = ((m / 32 : Nat) : Int) from rfl]
  exact Int.bmod_eq_of_le (by omega) (by omega)
theorem nL_mod {m : Nat} (h : m < 2147483648) : (nL m - nL m / 32 * 32).toInt32 = nI (m % 32) := by
  have e : nL m - nL m / 32 * 32 = nL (m % 32) := by
    apply Int64.toInt.inj
    have e1 : (nL m / 32 * 32).toInt = ((m / 32 * 32 : Nat) : Int) := by
      rw [nL_div h, Int64.toInt_mul, nL_toInt (by omega), show (32 : Int64).toInt = 32 from rfl]
      have : (m / 32 * 32 : Nat) ≤ m := by omega
      rw [Int.bmod_eq_of_le (by omega) (by omega)]
      omega
    rw [Int64.toInt_sub, e1, nL_toInt h, nL_toInt (by omega)]
    rw [Int.bmod_eq_of_le (by omega) (by omega)]
    omega
  rw [e]
  apply Int32.toInt.inj
  rw [Int64.toInt_toInt32, nL_toInt (by omega), nI_toI9 (by omega)]
  exact Int.bmod_eq_of_le (by omega) (by omega)
theorem nL_le0 {m : Nat} (h : m < 2147483648) : lg_cmp (nL m) 0 ≤ 0 ↔ m = 0 := by
  have h0 : (0 : Int64).toInt = 0 := rfl
  unfold lg_cmp
  by_cases c : m = 0
  · have : nL m = 0 := by
      apply Int64.toInt.inj
      rw [nL_toInt h, h0, c]
      rfl
    rw [this, if_neg (by decide), if_pos rfl]
    exact ⟨fun _ => c, fun _ => by decide⟩
  · have : nL m > 0 := by
      show (0 : Int64) < nL m
      rw [Int64.lt_iff_toInt_lt, nL_toInt h, h0]
      omega
    rw [if_pos this]
    exact ⟨fun q => absurd q (by decide), fun q => absurd q c⟩
theorem nmL_s (l : List Nat) (c : Nat) : nmL (l ++ [c]) = 32 * nmL l + (c - 96) := by
  unfold nmL
  rw [List.foldl_append]
  rfl
theorem nmL_t {l : List Nat} {k : Nat} (hk : k < l.length) : nmL (l.take (k + 1)) = 32 * nmL (l.take k) + (l.getD k 0 - 96) := by
  rw [List.take_add_one, List.getElem?_eq_getElem hk, Option.toList_some, nmL_s, List.getD_eq_getElem?_getD, List.getElem?_eq_getElem hk, Option.getD_some]
theorem nmL_lt {l : List Nat} (hl : ∀ c ∈ l, 97 ≤ c ∧ c ≤ 122) : ∀ k, k ≤ l.length → nmL (l.take k) < 32 ^ k
  | 0, _ => by simp [nmL]
  | k + 1, h => by
    have ih := nmL_lt hl k (by omega)
    have hc := hl (l.getD k 0) (by rw [List.getD_eq_getElem?_getD, List.getElem?_eq_getElem (by omega), Option.getD_some]; exact List.getElem_mem _)
    rw [nmL_t (by omega), Nat.pow_succ]
    omega
theorem nmL_p {l : List Nat} (hl : ∀ c ∈ l, 97 ≤ c ∧ c ≤ 122) {k : Nat} (hk : k < l.length) : nmL (l.take (k + 1)) / 32 = nmL (l.take k) ∧ nmL (l.take (k + 1)) % 32 = l.getD k 0 - 96 ∧ 0 < nmL (l.take (k + 1)) ∧ 97 ≤ l.getD k 0 ∧ l.getD k 0 ≤ 122 := by
  have hc := hl (l.getD k 0) (by rw [List.getD_eq_getElem?_getD, List.getElem?_eq_getElem hk, Option.getD_some]; exact List.getElem_mem _)
  rw [nmL_t hk]
  omega
theorem nmL_31 {l : List Nat} (hl : ∀ c ∈ l, 97 ≤ c ∧ c ≤ 122) (h6 : l.length ≤ 6) {k : Nat} (hk : k ≤ l.length) : nmL (l.take k) < 2147483648 := by
  have h1 := nmL_lt hl k hk
  have h2 : 32 ^ k ≤ 32 ^ 6 := Nat.pow_le_pow_right (by omega) (by omega)
  have h3 : (32 : Nat) ^ 6 = 1073741824 := by decide
  omega
theorem m_letters {l : List Nat} (hl : ∀ c ∈ l, 97 ≤ c ∧ c ≤ 122) (h6 : l.length ≤ 6) : nX11_letters (nL (nmL l)) = some (nI l.length) := by
  unfold nX11_letters
  rw [show nmL l = nmL (l.take (l.length - 0)) by rw [Nat.sub_zero, List.take_length]]
  refine wh_seq (fun i => (nI i, nL (nmL (l.take (l.length - i))))) l.length (fun i hi => ?_) ?_
  · have hb := nmL_31 hl h6 (k := l.length - i) (by omega)
    obtain ⟨a1, a2, a3, _⟩ := nmL_p hl (k := l.length - i - 1) (by omega)
    rw [show l.length - i - 1 + 1 = l.length - i by omega] at a1 a3
    dsimp only [wX11_letters_4]
    rw [if_neg (fun e => by have := (nL_le0 hb).mp e; omega), nL_div hb, a1, nI_s]
    rfl
  · dsimp only [wX11_letters_4]
    rw [Nat.sub_self, if_pos ((nL_le0 (by rw [List.take_zero]; decide)).mpr (by rw [List.take_zero]; rfl))]
    rfl
theorem m_letter {l : List Nat} (hl : ∀ c ∈ l, 97 ≤ c ∧ c ≤ 122) (h6 : l.length ≤ 6) {j : Nat} (hj : j < l.length) : nX11_letter (nL (nmL l)) (nI j) = some (nI (l.getD j 0)) := by
  unfold nX11_letter
  rw [m_letters hl h6, Option.bind_some, show nI l.length - (1 : Int32) = nI (l.length - 1 - 0) by rw [show nI l.length - (1 : Int32) = nI (l.length - 1) from nI_sub (b := 1) (by omega), Nat.sub_zero]]
  have key : wh (wX11_letter_10 (nI j)) (nL (nmL (l.take (l.length - 0))), nI (l.length - 1 - 0)) = some (nI (l.getD j 0)) := by
    refine wh_seq (fun i => (nL (nmL (l.take (l.length - i))), nI (l.length - 1 - i))) (l.length - 1 - j) (fun i hi => ?_) ?_
    · have hb := nmL_31 hl h6 (k := l.length - i) (by omega)
      obtain ⟨a1, a2, a3, _⟩ := nmL_p hl (k := l.length - i - 1) (by omega)
      rw [show l.length - i - 1 + 1 = l.length - i by omega] at a1
      dsimp only [wX11_letter_10]
      rw [if_neg (fun e => by rw [nN_le (by omega) (by omega)] at e; omega), nL_div hb, a1, nJ_p, nJ_pp (by omega)]
      rfl
    · have hb := nmL_31 hl h6 (k := j + 1) (by omega)
      obtain ⟨a1, a2, a3, a4, a5⟩ := nmL_p hl (k := j) hj
      dsimp only [wX11_letter_10]
      rw [show l.length - 1 - (l.length - 1 - j) = j by omega, show l.length - (l.length - 1 - j) = j + 1 by omega, if_pos (Int32.le_refl _), nL_mod hb, a2, show nI (l.getD j 0 - 96) + (97 : Int32) = nI (l.getD j 0 - 96 + 97) from nN_add _ 97, show nI (l.getD j 0 - 96 + 97) - (1 : Int32) = nI (l.getD j 0 - 96 + 97 - 1) from nI_sub (b := 1) (by omega), show l.getD j 0 - 96 + 97 - 1 = l.getD j 0 by omega]
      rfl
  rw [Nat.sub_zero, List.take_length] at key
  exact key
theorem s_5 (a : Nat → Int32) (hv : Iv g) : ∃ r, nS_5 a g = some r ∧ Iv r := by
  obtain ⟨S, hc, hm⟩ := hv
  obtain ⟨hO, ⟨hP, hE, hC0, hL, h6, hG⟩, ⟨hR, hH, hz⟩, hT, hWr, hFl, hB⟩ := id hc
  have h5 := hO.1
  unfold nS_5
  rcases ix2 (a 1) (n := pn S.1) (by omega) with ⟨f, hf, e1⟩ | hno
  · rw [e1]
    obtain ⟨l6, hl⟩ := hO.2.2.1 f hf
    obtain ⟨p8, p7⟩ := hP.2.2.2.2.2.2.2 f hf
    rcases ix2 (a 2) (n := (pl S.1 f).length) (by omega) with ⟨j, hj, e2⟩ | hno2
    · rw [e2]
      refine st_q (S := S) (L := nL_name (nI f) (nI j)) (M := nX11_name (nI f) (nI j)) (cd := 0) (an := nI ((pl S.1 f).getD j 0)) hc hm ?_ (fun h hm2 => ?_)
      · refine cQ_l (X := nX10_name (nI f) (nI j)) ?_
        unfold nX10_name nX6_letter
        rw [c_needField hO hP hf, Option.bind_some, zel_i, if_neg (nI_nn (by omega)), zchk_t (zin_nI (by omega) (by omega)), nI_cl (by omega), p8, if_pos ((nN_lt (by omega) (by omega)).mpr hj), show nI f * (6 : Int32) = nI (f * 6) from nI_mul f 6, nN_add, zchk_t (zin_nI (by omega) (by omega)), nI_cl (by omega), p7 j hj, Option.bind_some]
      · obtain ⟨⟨hM, hF, hNm, hBx⟩, ⟨hR2, hH2⟩, hT2, hW2, hF2⟩ := id hm2
        unfold nX11_name jX11_name_14
        rw [m_isField hO hM hf, Option.bind_some, if_neg n01, zi_at, if_pos (Int32.le_refl 0), zchk_t (zin_nI (by omega) (by omega)), nI_cl (by omega), show (zi h 42 0 0).2.1 50 f = nL (nmL (pl S.1 f)) from hNm f hf, m_letters hl l6, Option.bind_some, m_in hj (by omega), Option.bind_some, if_neg n01, zchk_t (zin_nI (by omega) (by omega)), m_letter hl l6 hj, Option.bind_some]
        exact ⟨_, _, rfl, sc_42 _ _, zi_at _ _ _ _, fun _ => rfl⟩
    · refine st_q (S := S) (L := nL_name (nI f) (a 2)) (M := nX11_name (nI f) (a 2)) (cd := 0) (an := -1) hc hm ?_ (fun h hm2 => ?_)
      · refine cQ_l (X := nX10_name (nI f) (a 2)) ?_
        unfold nX10_name nX6_letter
        rw [c_needField hO hP hf, Option.bind_some, zel_i]
        by_cases c : a 2 < 0
        · rw [if_pos c, Option.bind_some]
        · rw [if_neg c, zchk_t (zin_nI (by omega) (by omega)), nI_cl (by omega), p8, if_neg (fun e => nIx_lt hno2 ⟨c, e⟩), Option.bind_some]
      · obtain ⟨⟨hM, hF, hNm, hBx⟩, ⟨hR2, hH2⟩, hT2, hW2, hF2⟩ := id hm2
        unfold nX11_name jX11_name_14
        rw [m_isField hO hM hf, Option.bind_some, if_neg n01, zi_at, if_pos (Int32.le_refl 0), zchk_t (zin_nI (by omega) (by omega)), nI_cl (by omega), show (zi h 42 0 0).2.1 50 f = nL (nmL (pl S.1 f)) from hNm f hf, m_letters hl l6, Option.bind_some, m_out (by omega) hno2, Option.bind_some, if_pos rfl]
        exact ⟨_, _, rfl, sc_42 _ _, zi_at _ _ _ _, fun _ => rfl⟩
  · refine st_q (S := S) (L := nL_name (a 1) (a 2)) (M := nX11_name (a 1) (a 2)) (cd := 1) (an := 0) hc hm ?_ (fun h hm2 => ?_)
    · exact cQ_r (X := nX10_name (a 1) (a 2)) (by unfold nX10_name; rw [c_needFieldN hP hno, Option.bind_some, zel_e]) (by rw [if_pos rfl]) n01
    · obtain ⟨⟨hM, hF, hNm, hBx⟩, ⟨hR2, hH2⟩, hT2, hW2, hF2⟩ := id hm2
      unfold nX11_name jX11_name_14
      rw [m_isFieldN hO hM hno, Option.bind_some, if_pos rfl, zi_at, if_neg le1]
      exact mQ_err n01
end S18
