
/-! ===== donors of a row; what a row is when mended ===== -/
section Dp
variable {P : zPl} {g : zS} {N : Nat} {r : Nat → Nat}
/-- the donors of row i among the first n rows -/
def dG (P : zPl) (r : Nat → Nat) (i n : Nat) : zDn := foN (fun o s => if o != i && gvB P (r i) (r o) (ls P (r i)) then dIns s o (far P (r i) (r o) (ls P (r i)) (pn P)) else s) n (0, fun _ => 0, fun _ => 0)
theorem dG_s (P : zPl) (r : Nat → Nat) (i n : Nat) : dG P r i (n + 1) = if n != i && gvB P (r i) (r n) (ls P (r i)) then dIns (dG P r i n) n (far P (r i) (r n) (ls P (r i)) (pn P)) else dG P r i n := rfl
theorem dG_le (P : zPl) (r : Nat → Nat) (i : Nat) : ∀ n, (dG P r i n).1 ≤ n := by
  intro n
  induction n with
  | zero => exact Nat.le_refl _
  | succ n ih =>
    rw [dG_s]
    split
    · show (dG P r i n).1 + 1 ≤ n + 1
      omega
    · omega
def dGt (P : zPl) (r : Nat → Nat) (N i : Nat) : zDn := if ls P (r i) = 99 then (0, fun _ => 0, fun _ => 0) else dG P r i N
theorem dGt_le (P : zPl) (r : Nat → Nat) (N i : Nat) : (dGt P r N i).1 ≤ N := by
  unfold dGt
  split
  · exact Nat.zero_le _
  · exact dG_le P r i N
theorem e_gather (hO : pOK P) (hP : cP P g) (hE : cE P g) (hC : cC P g) (hL : cL P g) (hR : rR P N r g) {i : Nat} (hi : i < N) : ∃ h, nX2_gather (nI i) g = some h ∧ fr kDn g h ∧ dR N (dGt P r N i) h := by
  have h5 := hO.1
  have h7 := p2n hO
  have hR' := hR
  obtain ⟨r1, r2, r3⟩ := hR
  have ri := (r3 i hi).2
  unfold nX2_gather
  rw [e_codeOf hR' hi, Option.bind_some, e_leastSet hO hP hE hC hL ri, Option.bind_some]
  have hF0 : fr kDn g (zi g 34 5 0) := fr_zi rfl _ _ _
  have v0 : (zi g 34 5 0).1 34 5 = nI 0 := zi_at _ _ _ _
  generalize zi g 34 5 0 = g0 at *
  have hls := ls_spec hO (r i)
  unfold sI dGt
  by_cases h9 : ls P (r i) = 99
  · rw [if_pos h9, if_pos h9]
    have hR0 := rR_fr (K := kDn) ⟨rfl, rfl⟩ hF0 hR'
    refine ⟨g0, wh_out ?_, hF0, v0, fun k hk => absurd hk (Nat.not_lt_zero k)⟩
    dsimp only [wX2_gather_26]
    rw [if_pos (show (-1 : Int32) = -1 from rfl)]
    split <;> rfl
  · have hS : ls P (r i) < 2 ^ pn P := by rcases hls with q | q; exact absurd q.1 h9; exact q.1
    rw [if_neg h9, if_neg h9]
    refine wh_up (fun o (s : Int32 × zS) => s.1 = nI o ∧ fr kDn g s.2 ∧ dR N (dG P r i o) s.2) _ N (fun o s ho hI => ?_) (fun s hI => ?_) ⟨rfl, hF0, v0, fun k hk => absurd hk (Nat.not_lt_zero k)⟩
    · obtain ⟨i1, i2, i3⟩ := hI
      obtain ⟨s1, s2⟩ := s
      dsimp only at i1 i2 i3
      obtain ⟨q1, q2, q3⟩ := rR_fr (K := kDn) ⟨rfl, rfl⟩ i2 hR'
      have hP2 := cP_fr ⟨rfl, rfl, rfl, rfl, rfl, rfl, rfl⟩ i2 hP
      have hE2 := cE_fr rfl i2 hE
      have hle := dG_le P r i o
      have hfl := far_le hO ri (r3 o ho).2 (ls P (r i)) (pn P) (Nat.le_refl _)
      dsimp only [wX2_gather_26]
      rw [i1, q1, if_neg (by rw [nN_le (by omega) (by omega)]; omega), if_neg (show ¬ nI (ls P (r i)) = (-1 : Int32) from fun q => by rw [nI_m1, nN_eqm (by omega)] at q; exact q), dG_s, nI_s]
      by_cases c : o = i
      · rw [if_pos (by rw [c]), show (o != i) = false from by simp [c], Bool.false_and, if_neg (by decide)]
        exact ⟨_, rfl, rfl, i2, i3⟩
      · rw [if_neg (fun q => c ((nN_eq (by omega) (by omega)).mp q)), show (o != i) = true from by simp [c], Bool.true_and, zchk_t (zin_nI (by omega) (by omega)), nI_cl (by omega), (q3 o ho).1, e_gives hO hP2 hE2 ri (r3 o ho).2, Option.bind_some]
        cases hg : gvB P (r i) (r o) (ls P (r i)) with
        | false =>
          rw [if_pos (show (if false = true then (1 : Int32) else 0) = 0 by decide), if_neg (by decide)]
          exact ⟨_, rfl, rfl, i2, i3⟩
        | true =>
          rw [if_neg (show ¬ (if true = true then (1 : Int32) else 0) = 0 by decide), if_pos rfl, zchk_t (zin_nI (by omega) (by omega)), e_farApart hO hP2 ri (r3 o ho).2, Option.bind_some]
          obtain ⟨h, w, a1, a2⟩ := e_insert i3 (show (dG P r i o).1 < 40 by omega) ho (show far P (r i) (r o) (ls P (r i)) (pn P) ≤ 225 by omega)
          rw [w, Option.bind_some]
          exact ⟨_, rfl, rfl, fr_tr i2 a1, a2⟩
    · obtain ⟨i1, i2, i3⟩ := hI
      obtain ⟨s1, s2⟩ := s
      dsimp only at i1 i2 i3
      obtain ⟨q1, q2, q3⟩ := rR_fr (K := kDn) ⟨rfl, rfl⟩ i2 hR'
      dsimp only [wX2_gather_26]
      rw [i1, q1, if_pos (Int32.le_refl _)]
      exact ⟨_, rfl, i2, i3⟩
/-- an argument is a number below n, or none -/
theorem ix_dec (a : Int32) {n : Nat} (hn : n < 2147483648) : (∃ k, k < n ∧ a = nI k) ∨ (a < 0 ∨ (¬ a < 0 ∧ nI n ≤ a)) := by
  by_cases h0 : a < 0
  · exact Or.inr (Or.inl h0)
  · have h1 : (0 : Int32) ≤ a := Int32.not_lt.mp h0
    rw [Int32.le_iff_toInt_le] at h1
    have h2 : (0 : Int32).toInt = 0 := by decide
    have e : a = nI a.toInt.toNat := by
      refine Int32.toInt_inj.mp ?_
      have hlt := Int32.toInt_lt a
      rw [nI_int (by omega)]
      omega
    by_cases h3 : a.toInt.toNat < n
    · exact Or.inl ⟨_, h3, e⟩
    · refine Or.inr (Or.inr ⟨h0, ?_⟩)
      have hlt := Int32.toInt_lt a
      rw [e, nN_le hn (by omega)]
      omega
/-- the value at a place, -1 beyond -/
def atI (f : Nat → Nat) (n : Nat) (a : Int32) : Int32 := if 0 ≤ a ∧ a < nI n then nI (f a.toNatClampNeg) else -1
theorem atI_k {f : Nat → Nat} {n k : Nat} (hk : k < n) (hn : n < 2147483648) : atI f n (nI k) = nI (f k) := by
  unfold atI
  rw [if_pos ⟨nI_0le (by omega), (nN_lt (by omega) (by omega)).mpr hk⟩, nI_cl (by omega)]
theorem atI_n {f : Nat → Nat} {n : Nat} {a : Int32} (h : a < 0 ∨ (¬ a < 0 ∧ nI n ≤ a)) : atI f n a = -1 := by
  unfold atI
  rw [if_neg]
  rintro ⟨h1, h2⟩
  rcases h with q | q
  · exact absurd q (Int32.not_lt.mpr h1)
  · exact absurd h2 (Int32.not_lt.mpr q.2)
theorem e_rowAt {s : zDn} (hD : dR N s g) (hs : s.1 ≤ 40) (a : Int32) : nX2_rowAt a g = some (atI s.2.1 s.1 a) := by
  obtain ⟨d1, d2⟩ := hD
  unfold nX2_rowAt
  rcases ix_dec a (show s.1 < 2147483648 by omega) with ⟨k, hk, rfl⟩ | h
  · rw [if_neg (nI_nn (by omega)), d1, if_pos ((nN_lt (by omega) (by omega)).mpr hk), zchk_t (zin_nI (by omega) (by omega)), nI_cl (by omega), atI_k hk (by omega), (d2 k hk).1]
  · rw [atI_n h]
    rcases h with q | q
    · rw [if_pos q]
    · rw [if_neg q.1, d1, if_neg (Int32.not_lt.mpr q.2)]
theorem e_farAt {s : zDn} (hD : dR N s g) (hs : s.1 ≤ 40) (a : Int32) : nX2_farAt a g = some (atI s.2.2 s.1 a) := by
  obtain ⟨d1, d2⟩ := hD
  unfold nX2_farAt
  rcases ix_dec a (show s.1 < 2147483648 by omega) with ⟨k, hk, rfl⟩ | h
  · rw [if_neg (nI_nn (by omega)), d1, if_pos ((nN_lt (by omega) (by omega)).mpr hk), zchk_t (zin_nI (by omega) (by omega)), nI_cl (by omega), atI_k hk (by omega), (d2 k hk).2.2.1]
  · rw [atI_n h]
    rcases h with q | q
    · rw [if_pos q]
    · rw [if_neg q.1, d1, if_neg (Int32.not_lt.mpr q.2)]
/-- how many donors have the answers of one in a set -/
def smB (r : Nat → Nat) (S : Nat) (s : zDn) (k j : Nat) : Bool := (r (s.2.1 j) &&& msk S 5) == (r (s.2.1 k) &&& msk S 5)
theorem e_countSame {s : zDn} (hR : rR P N r g) (hD : dR N s g) (hs : s.1 ≤ 40) {S k : Nat} (hk : k < s.1) : nX2_countSame (nI (r (s.2.1 k) &&& msk S 5)) (nI S) g = some (nI (cnt (smB r S s k) s.1)) := by
  obtain ⟨d1, d2⟩ := hD
  have lt1 : r (s.2.1 k) &&& msk S 5 < 32768 := Nat.lt_of_le_of_lt Nat.and_le_left (hR.2.2 _ (d2 k hk).2.1).2.1
  unfold nX2_countSame
  refine wh_cnt _ s.1 (fun i a hi => ?_) (fun a => ?_)
  · have lt2 : r (s.2.1 i) &&& msk S 5 < 32768 := Nat.lt_of_le_of_lt Nat.and_le_left (hR.2.2 _ (d2 i hi).2.1).2.1
    dsimp only [wX2_countSame_5]
    rw [d1, if_neg (by rw [nN_le (by omega) (by omega)]; omega), zchk_t (zin_nI (by omega) (by omega)), nI_cl (by omega), (d2 i hi).1, e_codeOf hR (d2 i hi).2.1, Option.bind_some, e_part, Option.bind_some]
    by_cases q : r (s.2.1 i) &&& msk S 5 = r (s.2.1 k) &&& msk S 5
    · have hh : smB r S s k i = true := by unfold smB; rw [q, beq_self_eq_true]
      rw [if_pos (by rw [q]), nI_s, nI_s, hh, if_pos rfl]
    · have hh : smB r S s k i = false := by unfold smB; simp [q]
      rw [if_neg (fun e => q ((nN_eq (by omega) (by omega)).mp e)), nI_s, hh, if_neg (by decide)]
  · dsimp only [wX2_countSame_5]
    rw [d1, if_pos (Int32.le_refl _)]
    rfl
/-- the first of the donors that the most agree with -/
def cmn (r : Nat → Nat) (S : Nat) (s : zDn) (n : Nat) : Nat × Nat := foN (fun k b => if cnt (smB r S s k) s.1 ≤ b.2 then b else (s.2.1 k, cnt (smB r S s k) s.1)) n (s.2.1 0, 0)
theorem cmn_s (r : Nat → Nat) (S : Nat) (s : zDn) (n : Nat) : cmn r S s (n + 1) = if cnt (smB r S s n) s.1 ≤ (cmn r S s n).2 then cmn r S s n else (s.2.1 n, cnt (smB r S s n) s.1) := rfl
theorem cmn_le {s : zDn} (r : Nat → Nat) (S : Nat) (h0 : 0 < s.1) (hs : ∀ k, k < s.1 → s.2.1 k < N) : ∀ n, n ≤ s.1 → (cmn r S s n).1 < N ∧ (cmn r S s n).2 ≤ s.1 := by
  intro n
  induction n with
  | zero => intro _; exact ⟨hs 0 h0, Nat.zero_le _⟩
  | succ n ih =>
    intro hn
    rw [cmn_s]
    split
    · exact ih (by omega)
    · exact ⟨hs n (by omega), cnt_le _ _⟩
theorem e_commonest {s : zDn} (hR : rR P N r g) (hD : dR N s g) (hs : s.1 ≤ 40) (h0 : 0 < s.1) {S : Nat} : nX2_commonest (nI S) g = some (nI (cmn r S s s.1).1) := by
  have hD' := hD
  obtain ⟨d1, d2⟩ := hD
  have hN := hR.2.1
  unfold nX2_commonest
  rw [show (0 : Int32) = nI 0 from rfl, zchk_t (zin_nI (by omega) (by omega)), nI_cl (by omega), (d2 0 h0).1]
  refine wh_seq (fun i => (nI (cmn r S s i).1, nI (cmn r S s i).2, nI i)) s.1 (fun i hi => ?_) ?_
  · have hc := cmn_le r S h0 (fun k hk => (d2 k hk).2.1) i (by omega)
    have hl := cnt_le (smB r S s i) s.1
    dsimp only [wX2_commonest_12]
    rw [d1, if_neg (by rw [nN_le (by omega) (by omega)]; omega), zchk_t (zin_nI (by omega) (by omega)), nI_cl (by omega), (d2 i hi).1, e_codeOf hR (d2 i hi).2.1, Option.bind_some, e_part, Option.bind_some, e_countSame hR hD' hs hi, Option.bind_some, nI_s, cmn_s]
    by_cases c : cnt (smB r S s i) s.1 ≤ (cmn r S s i).2
    · rw [if_pos ((nN_le (by omega) (by omega)).mpr c), if_pos c]
    · rw [if_neg (fun q => c ((nN_le (by omega) (by omega)).mp q)), if_neg c, zchk_t (zin_nI (by omega) (by omega))]
  · dsimp only [wX2_commonest_12]
    rw [d1, if_pos (Int32.le_refl _)]
    rfl
/-- the row that a row becomes; 99999: none -/
def mdd (P : zPl) (r : Nat → Nat) (N i way : Nat) : Nat := if rgt P (r i) then r i else if ls P (r i) = 99 then 99999 else if way = 2 then fw P (r i) (ls P (r i)) else if (dGt P r N i).1 = 0 then 99999 else bld (r i) (r (if way = 1 then (cmn r (ls P (r i)) (dGt P r N i) (dGt P r N i).1).1 else (dGt P r N i).2.1 0)) (ls P (r i))
def mI (k : Nat) : Int32 := if k = 99999 then -1 else nI k
theorem mI_lt {k : Nat} (h : k < 32768) : mI k = nI k := if_neg (by omega)
theorem e_mended (hO : pOK P) (hP : cP P g) (hE : cE P g) (hC : cC P g) (hL : cL P g) (hR : rR P N r g) {i way : Nat} (hi : i < N) (hw : way ≤ 2) : ∃ h, nX2_mended (nI i) (nI way) g = some (mI (mdd P r N i way), h) ∧ fr kDn g h := by
  have h5 := hO.1
  have h7 := p2n hO
  have hN := hR.2.1
  have ri := (hR.2.2 i hi).2
  unfold nX2_mended mdd
  rw [e_codeOf hR hi, Option.bind_some, e_isRight hO hP hE ri, Option.bind_some]
  cases rgt P (r i) with
  | true =>
    rw [if_neg (show ¬ (if true = true then (1 : Int32) else 0) = 0 by decide), if_pos rfl, mI_lt ri.1]
    exact ⟨g, rfl, fr_rfl _ _⟩
  | false =>
    rw [if_pos (show (if false = true then (1 : Int32) else 0) = 0 by decide), if_neg (by decide), e_leastSet hO hP hE hC hL ri, Option.bind_some]
    have hls := ls_spec hO (r i)
    unfold sI
    by_cases h9 : ls P (r i) = 99
    · rw [if_pos h9, if_pos rfl, if_pos h9]
      exact ⟨g, rfl, fr_rfl _ _⟩
    · have hS : ls P (r i) < 2 ^ pn P ∧ cmd P (r i) (ls P (r i)) = true := by rcases hls with q | q; exact absurd q.1 h9; exact ⟨q.1, q.2.1⟩
      rw [if_neg h9, if_neg (show ¬ nI (ls P (r i)) = (-1 : Int32) from fun q => by rw [nI_m1, nN_eqm (by omega)] at q; exact q), if_neg h9]
      by_cases c2 : way = 2
      · rw [if_pos (show nI way = (2 : Int32) by rw [c2]; rfl), if_pos c2, e_firstWay hO hP hE hC ri hS.1 hS.2, Option.bind_some, mI_lt (fw_spec hO ri hS.2).1.1]
        exact ⟨g, rfl, fr_rfl _ _⟩
      · rw [if_neg (show ¬ nI way = (2 : Int32) from fun q => c2 ((nN_eq (b := 2) (by omega) (by omega)).mp q)), if_neg c2]
        obtain ⟨h, w, a1, a2⟩ := e_gather hO hP hE hC hL hR hi
        rw [w, Option.bind_some, a2.1]
        have hle := dGt_le P r N i
        by_cases c0 : (dGt P r N i).1 = 0
        · rw [if_pos (show nI (dGt P r N i).1 = 0 by rw [c0]; rfl), if_pos c0]
          exact ⟨h, rfl, a1⟩
        · have hR2 := rR_fr (K := kDn) ⟨rfl, rfl⟩ a1 hR
          rw [if_neg (fun q => c0 ((nN_eq0 (by omega)).mp q)), if_neg c0]
          have fin : ∀ d, d < N → jX2_mended_90 (nI (r i)) (nI (ls P (r i))) (nI d) h = some (mI (bld (r i) (r d) (ls P (r i))), h) := fun d hd => by
            unfold jX2_mended_90
            rw [e_codeOf hR2 hd, Option.bind_some, e_blend, Option.bind_some, mI_lt (bld_lt ri.1 (hR.2.2 d hd).2.1)]
          by_cases c1 : way = 1
          · rw [if_pos (show nI way = (1 : Int32) by rw [c1]; rfl), if_pos c1, e_commonest hR2 a2 (by omega) (by omega), Option.bind_some, fin _ (cmn_le r _ (by omega) (fun k hk => (a2.2 k hk).2.1) _ (Nat.le_refl _)).1]
            exact ⟨h, rfl, a1⟩
          · rw [if_neg (show ¬ nI way = (1 : Int32) from fun q => c1 ((nN_eq (b := 1) (by omega) (by omega)).mp q)), if_neg c1, zchk_t (show zin (0 : Int32) 40 = true from zin_nI (i := 0) (by omega) (by omega)), show (0 : Int32).toNatClampNeg = 0 from rfl, (a2.2 0 (by omega)).1, fin _ (a2.2 0 (by omega)).2.1]
            exact ⟨h, rfl, a1⟩
end Dp
