
/-! ===== rows; counting them ===== -/
section Ki
variable {P : zPl} {g : zS} {N : Nat} {r : Nat → Nat}
/-- the rows of the class -/
def rR (P : zPl) (N : Nat) (r : Nat → Nat) (g : zS) : Prop := g.1 31 1 = nI N ∧ N ≤ 40 ∧ ∀ k, k < N → g.1 32 k = nI (r k) ∧ rOK P (r k)
theorem rR_fr {K : Nat → Bool} {h : zS} (hK : K 31 = false ∧ K 32 = false) (a : fr K g h) (p : rR P N r g) : rR P N r h := by
  unfold rR at p ⊢
  rw [(a.1 31 hK.1).1, (a.1 32 hK.2).1]
  exact p
theorem wh_cnt {step : Int32 × Int32 → Option ((Int32 × Int32) ⊕ Int32)} (p : Nat → Bool) (N : Nat) (hs : ∀ i a, i < N → step (nI a, nI i) = some (.inl (nI (if p i then a + 1 else a), nI (i + 1)))) (he : ∀ a, step (nI a, nI N) = some (.inr (nI a))) : wh step ((0 : Int32), (0 : Int32)) = some (nI (cnt p N)) :=
  wh_seq (fun i => (nI (cnt p i), nI i)) N (fun i hi => hs i _ hi) (he _)
theorem e_countRight (hO : pOK P) (hP : cP P g) (hE : cE P g) (hR : rR P N r g) : nX4_countRight g = some (nI (cnt (fun k => rgt P (r k)) N)) := by
  obtain ⟨r1, r2, r3⟩ := hR
  unfold nX4_countRight
  refine wh_cnt _ N (fun i a hi => ?_) (fun a => ?_)
  · dsimp only [wX4_countRight_4]
    rw [r1, if_neg (by rw [nN_le (by omega) (by omega)]; omega), zchk_t (zin_nI (by omega) (by omega)), nI_cl (by omega), (r3 i hi).1, e_isRight hO hP hE (r3 i hi).2]
    dsimp only [Option.bind_some]
    cases rgt P (r i) with
    | false => rw [if_pos (show (if false = true then (1 : Int32) else 0) = 0 by decide), nI_s]; rfl
    | true => rw [if_neg (show ¬ (if true = true then (1 : Int32) else 0) = 0 by decide), nI_s, nI_s]; rfl
  · dsimp only [wX4_countRight_4]
    rw [r1, if_pos (Int32.le_refl _)]
    rfl
/-- a row is in a group; 0: any -/
def iG (P : zPl) (c G : Nat) : Bool := G == 0 || rv c (pg P) == G
theorem e_isInGroup (hO : pOK P) (hP : cP P g) {c G : Nat} (hc : rOK P c) (hG : G < 8) (hp : G ≠ 0 → pg P < pn P) : nX4_isInGroup (nI c) (nJ G) g = some (if iG P c G then 1 else 0) := by
  have h5 := hO.1
  unfold nX4_isInGroup iG
  by_cases h0 : G = 0
  · rw [if_pos ((nJ_m1 (by omega)).mpr h0), h0]; rfl
  · have hpg := hp h0
    have hr := rv_lt c (pg P)
    rw [if_neg (fun q => h0 ((nJ_m1 (by omega)).mp q)), hP.2.2.2.2.1, show gI (pg P) = nI (pg P) from if_neg (by omega), e_answerAt hc.1 (by omega)]
    dsimp only [Option.bind_some]
    by_cases h1 : rv c (pg P) = G
    · rw [if_pos ((nJ_eq (by omega) (by omega)).mpr h1), h1]; simp
    · rw [if_neg (fun q => h1 ((nJ_eq (by omega) (by omega)).mp q))]; simp [h0, h1]
theorem e_countInGroup (hO : pOK P) (hP : cP P g) (hE : cE P g) (hR : rR P N r g) {G : Nat} (hG : G < 8) (hp : G ≠ 0 → pg P < pn P) (b : Bool) : nX4_countInGroup (nJ G) (if b then 1 else 0) g = some (nI (cnt (fun k => iG P (r k) G && (!b || rgt P (r k))) N)) := by
  obtain ⟨r1, r2, r3⟩ := hR
  unfold nX4_countInGroup
  refine wh_cnt _ N (fun i a hi => ?_) (fun a => ?_)
  · dsimp only [wX4_countInGroup_5]
    rw [r1, if_neg (by rw [nN_le (by omega) (by omega)]; omega), zchk_t (zin_nI (by omega) (by omega)), nI_cl (by omega), (r3 i hi).1, e_isInGroup hO hP (r3 i hi).2 hG hp]
    dsimp only [Option.bind_some]
    cases iG P (r i) G with
    | false => rw [if_pos (show (if false = true then (1 : Int32) else 0) = 0 by decide), nI_s]; rfl
    | true =>
      rw [if_neg (show ¬ (if true = true then (1 : Int32) else 0) = 0 by decide)]
      cases b with
      | false => rw [if_pos (show (if false = true then (1 : Int32) else 0) = 0 by decide), nI_s, nI_s]; rfl
      | true =>
        rw [if_neg (show ¬ (if true = true then (1 : Int32) else 0) = 0 by decide), zchk_t (zin_nI (by omega) (by omega)), e_isRight hO hP hE (r3 i hi).2]
        dsimp only [Option.bind_some]
        cases rgt P (r i) with
        | false => rw [if_pos (show (if false = true then (1 : Int32) else 0) = 0 by decide), nI_s]; rfl
        | true => rw [if_neg (show ¬ (if true = true then (1 : Int32) else 0) = 0 by decide), nI_s, nI_s]; rfl
  · dsimp only [wX4_countInGroup_5]
    rw [r1, if_pos (Int32.le_refl _)]
    rfl
/-- a row that passes, of a group, with a value -/
def hav (P : zPl) (G f v c : Nat) : Bool := rv c f == v + 1 && iG P c G && rgt P c
theorem e_countHaving (hO : pOK P) (hP : cP P g) (hE : cE P g) (hR : rR P N r g) {G f v : Nat} (hf : f < pn P) (hv : v < 7) (hG : G < 8) (hp : G ≠ 0 → pg P < pn P) : nX4_countHaving (nJ G) (nI f) (nI v) g = some (nI (cnt (fun k => hav P G f v (r k)) N)) := by
  have h5 := hO.1
  obtain ⟨r1, r2, r3⟩ := hR
  unfold nX4_countHaving
  refine wh_cnt _ N (fun i a hi => ?_) (fun a => ?_)
  · dsimp only [wX4_countHaving_6]
    have hr := rv_lt (r i) f
    rw [r1, if_neg (by rw [nN_le (by omega) (by omega)]; omega), zchk_t (zin_nI (by omega) (by omega)), nI_cl (by omega), (r3 i hi).1, e_answerAt (r3 i hi).2.1 (by omega)]
    dsimp only [Option.bind_some]
    by_cases h1 : rv (r i) f = v + 1
    · have hh : hav P G f v (r i) = (iG P (r i) G && rgt P (r i)) := by unfold hav; rw [h1, beq_self_eq_true, Bool.true_and]
      rw [if_pos (show nJ (rv (r i) f) = nI v by rw [h1, nJ_s]), e_isInGroup hO hP (r3 i hi).2 hG hp, hh]
      dsimp only [Option.bind_some]
      cases iG P (r i) G with
      | false => rw [if_pos (show (if false = true then (1 : Int32) else 0) = 0 by decide), nI_s]; rfl
      | true =>
        rw [if_neg (show ¬ (if true = true then (1 : Int32) else 0) = 0 by decide), e_isRight hO hP hE (r3 i hi).2]
        dsimp only [Option.bind_some]
        cases rgt P (r i) with
        | false => rw [if_pos (show (if false = true then (1 : Int32) else 0) = 0 by decide), nI_s]; rfl
        | true => rw [if_neg (show ¬ (if true = true then (1 : Int32) else 0) = 0 by decide), nI_s, nI_s]; rfl
    · rw [if_neg (show ¬ nJ (rv (r i) f) = nI v from fun q => h1 ((nJ_eq (b := v + 1) (by omega) (by omega)).mp (by rw [nJ_s]; exact q))), nI_s, show hav P G f v (r i) = false from by unfold hav; simp [h1]]
      rfl
  · dsimp only [wX4_countHaving_6]
    rw [r1, if_pos (Int32.le_refl _)]
    rfl
/-- the share of the rows that pass that have a value -/
def shr (P : zPl) (N : Nat) (r : Nat → Nat) (f v : Nat) : Nat := if cnt (fun k => rgt P (r k)) N = 0 then 0 else cnt (fun k => hav P 0 f v (r k)) N * 100 / cnt (fun k => rgt P (r k)) N
theorem nI_div {a b : Nat} (ha : a < 2147483648) (hb : b < 2147483648) : nI a / nI b = nI (a / b) := by
  have hne : nI a ≠ Int32.minValue := fun q => by
    have := congrArg Int32.toInt q
    rw [nI_int ha] at this
    have e : Int32.minValue.toInt = -2147483648 := by decide
    omega
  have h1 := Int32.toInt_div_of_ne_left (nI a) (nI b) hne
  refine Int32.toInt_inj.mp ?_
  rw [h1, nI_int ha, nI_int hb, nI_int (Nat.lt_of_le_of_lt (Nat.div_le_self a b) ha), Int.tdiv_eq_ediv_of_nonneg (by omega)]
  rfl
theorem shr_le (P : zPl) (N : Nat) (r : Nat → Nat) (f v : Nat) : shr P N r f v ≤ 100 := by
  unfold shr
  split
  · omega
  · next h =>
    have hle : cnt (fun k => hav P 0 f v (r k)) N ≤ cnt (fun k => rgt P (r k)) N := by
      have go : ∀ n, cnt (fun k => hav P 0 f v (r k)) n ≤ cnt (fun k => rgt P (r k)) n := by
        intro n
        induction n with
        | zero => exact Nat.le_refl _
        | succ n ih =>
          rw [cnt_s, cnt_s]
          cases h1 : rgt P (r n) with
          | true => split <;> simp <;> omega
          | false =>
            have : hav P 0 f v (r n) = false := by unfold hav; rw [h1, Bool.and_false]
            rw [this]
            simp
            exact ih
      exact go N
    refine Nat.div_le_of_le_mul ?_
    rw [Nat.mul_comm]
    omega
theorem e_shareOf (hO : pOK P) (hP : cP P g) (hE : cE P g) (hR : rR P N r g) {f v : Nat} (hf : f < pn P) (hv : v < 7) : nX4_shareOf (nI f) (nI v) g = some (nI (shr P N r f v)) := by
  have hN := hR.2.1
  have c1 := cnt_le (fun k => rgt P (r k)) N
  have c2 := cnt_le (fun k => hav P 0 f v (r k)) N
  unfold nX4_shareOf shr
  rw [e_countRight hO hP hE hR]
  dsimp only [Option.bind_some]
  by_cases h0 : cnt (fun k => rgt P (r k)) N = 0
  · rw [if_pos (by rw [h0]; rfl), if_pos h0]; rfl
  · rw [if_neg (fun q => h0 ((nN_eq0 (by omega)).mp q)), if_neg h0, show (-1 : Int32) = nJ 0 from nJ_0.symm, e_countHaving hO hP hE hR hf hv (by omega) (fun q => absurd rfl q)]
    dsimp only [Option.bind_some]
    rw [zchk_t (by rw [bne_iff_ne]; exact fun q => h0 ((nN_eq0 (by omega)).mp q)), show (100 : Int32) = nI 100 from rfl, nI_mul, nI_div (by omega) (by omega)]
end Ki
