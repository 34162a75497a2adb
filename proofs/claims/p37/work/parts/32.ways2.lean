
/-! ===== how many ways ===== -/
section Wy
variable {P : zPl} {g : zS}
/-- the tally behind the fields below k -/
def tlN (P : zPl) (S E k : Nat) : Nat → Nat := foN (fun f t => if S.testBit f then tlS P f t else t) k (fun x => if x == E then 1 else 0)
theorem tlN_s (P : zPl) (S E k : Nat) : tlN P S E (k + 1) = if S.testBit k then tlS P k (tlN P S E k) else tlN P S E k := rfl
/-- in how many ways the values of the last r fields get rid of the edits E -/
def nwb (P : zPl) (S : Nat) : Nat → Nat → Nat
  | 0, E => if E == 0 then 1 else 0
  | r + 1, E => if S.testBit (pn P - (r + 1)) then sm (fun v => nwb P S r (E &&& pT P (pn P - (r + 1)) v)) (pq P (pn P - (r + 1))) else nwb P S r E
theorem tl_sum (P : zPl) (S : Nat) {E : Nat} (hE : E < 64) : ∀ k, k ≤ pn P → sm (fun x => tlN P S E k x * nwb P S (pn P - k) x) 64 = nwb P S (pn P) E := by
  intro k
  induction k with
  | zero =>
    intro _
    rw [sm_one 64 hE (fun i _ hiE => ?_)]
    · show (if E == E then 1 else 0) * _ = _
      rw [if_pos (beq_self_eq_true E), Nat.one_mul, Nat.sub_zero]
    · show (if i == E then 1 else 0) * _ = _
      rw [if_neg (fun q => hiE (beq_iff_eq.mp q)), Nat.zero_mul]
  | succ k ih =>
    intro hk
    rw [← ih (by omega), tlN_s]
    have hr : pn P - k = pn P - (k + 1) + 1 := by omega
    have hf : pn P - (pn P - (k + 1) + 1) = k := by omega
    have hn : ∀ x, nwb P S (pn P - k) x = if S.testBit k then sm (fun v => nwb P S (pn P - (k + 1)) (x &&& pT P k v)) (pq P k) else nwb P S (pn P - (k + 1)) x := fun x => by
      rw [hr]
      show (if S.testBit (pn P - (pn P - (k + 1) + 1)) then _ else _) = _
      rw [hf]
    generalize tlN P S E k = t
    cases hS : S.testBit k with
    | false =>
      rw [if_neg (by decide)]
      exact sm_congr 64 (fun x _ => by rw [hn x, hS, if_neg (by decide)])
    | true =>
      rw [if_pos rfl]
      rw [sm_congr (h := fun x => sm (fun v => t x * nwb P S (pn P - (k + 1)) (x &&& pT P k v)) (pq P k)) 64 (fun x _ => by
        show t x * nwb P S (pn P - k) x = _
        rw [hn x, hS, if_pos rfl, Nat.mul_comm, ← sm_mul]
        exact sm_congr _ (fun v _ => Nat.mul_comm _ _)) |> fun e : sm (fun x => t x * nwb P S (pn P - k) x) 64 = _ => e]
      generalize nwb P S (pn P - (k + 1)) = w
      have e1 : ∀ y, tlS P k t y * w y = sm (fun x => sm (fun v => (if x &&& pT P k v == y then t x else 0) * w y) (pq P k)) 64 := fun y => by
        unfold tlS
        rw [← sm_mul]
        exact sm_congr _ (fun x _ => (sm_mul _ _ _).symm)
      rw [sm_congr 64 (fun y _ => e1 y), sm_comm]
      refine sm_congr 64 (fun x hx => ?_)
      rw [sm_comm]
      refine sm_congr _ (fun v _ => ?_)
      have hle : x &&& pT P k v < 64 := Nat.lt_of_le_of_lt Nat.and_le_left hx
      rw [sm_one 64 hle (fun y _ hy => by rw [if_neg (fun q => hy (beq_iff_eq.mp q).symm), Nat.zero_mul]), if_pos (beq_self_eq_true _)]
theorem tl_end (P : zPl) (S : Nat) {E : Nat} (hE : E < 64) : tlN P S E (pn P) 0 = nwb P S (pn P) E := by
  rw [← tl_sum P S hE (pn P) (Nat.le_refl _), sm_one 64 (k := 0) (by omega) (fun i _ hi => ?_)]
  · rw [Nat.sub_self]
    show _ = _ * (if (0 : Nat) == 0 then 1 else 0)
    rw [if_pos (beq_self_eq_true _), Nat.mul_one]
  · rw [Nat.sub_self]
    show _ * (if i == 0 then 1 else 0) = 0
    rw [if_neg (fun q => hi (beq_iff_eq.mp q)), Nat.mul_zero]
theorem e_tallyPassing (hO : pOK P) (hP : cP P g) (hE : cE P g) (hG : g.2.2.1 ≤ 1) {E S : Nat} (hE6 : E < 64) : ∃ h, nX5_tallyPassing (nI E) (nI S) g = some (nI (nwb P S (pn P) E), h) ∧ fr kT g h := by
  have h5 := hO.1
  unfold nX5_tallyPassing
  obtain ⟨g1, k1, k2, k3, k4⟩ := e_fill (c := zsp g 0) (n := 64) (by omega) 0 g
  rw [k1]
  dsimp only [Option.bind_some]
  have z1 : zsp g1 0 = zsp g 0 := by unfold zsp; rw [k4]
  rw [zchk_t (zin_nI hE6 (by omega)), nI_cl (by omega), z1]
  have hb : zsp g 0 = 24 ∨ zsp g 0 = 25 := zsp_or g 0
  have hF : fr kT g (zi g1 (zsp g 0) E 1) := fr_tr (fr_kT hb k3 k4) (fr_zi (by rcases hb with h | h <;> rw [h] <;> rfl) _ _ _)
  have hc : ∀ x, x < 64 → (zi g1 (zsp g 0) E 1).1 (zsp (zi g1 (zsp g 0) E 1) 0) x = nI (tlN P S E 0 x) := fun x hx => by
    rw [zsp_zi, z1]
    show _ = nI (if x == E then 1 else 0)
    by_cases q : x = E
    · subst q
      rw [zi_at, if_pos (beq_self_eq_true _)]; rfl
    · rw [zi_else _ _ (fun e => q e.2), k2 x hx, if_neg (fun e => q (beq_iff_eq.mp e))]; rfl
  generalize zi g1 (zsp g 0) E 1 = g2 at hF hc
  obtain ⟨⟨r1, r2⟩, w, q1, q2⟩ := wh_up (step := wX5_tallyPassing_17 (nI S)) (fun i (s : Int32 × zS) => s.1 = nI i ∧ (∀ x, x < 64 → s.2.1 (zsp s.2 0) x = nI (tlN P S E i x)) ∧ fr kT g s.2) (fun r : Int32 × zS => r.1 = nI (nwb P S (pn P) E) ∧ fr kT g r.2) (pn P) (fun i s hi hI => by
    obtain ⟨i1, i2, i3⟩ := hI
    obtain ⟨s1, s2⟩ := s
    dsimp only at i1 i2 i3
    dsimp only [wX5_tallyPassing_17]
    rw [i1, (cP_fr ⟨rfl, rfl, rfl, rfl, rfl, rfl, rfl⟩ i3 hP).1, if_neg (by rw [nN_le (by omega) (by omega)]; omega), nI_s]
    cases hS : S.testBit i with
    | false =>
      rw [if_pos ((nI_bitg (by omega)).mpr hS)]
      refine ⟨_, rfl, rfl, ?_, i3⟩
      rw [tlN_s, hS, if_neg (by decide)]
      exact i2
    | true =>
      rw [if_neg (fun q => by rw [(nI_bitg (by omega)).mp q] at hS; cases hS)]
      obtain ⟨h, a1, a2, a3⟩ := e_tallyField hO (cP_fr ⟨rfl, rfl, rfl, rfl, rfl, rfl, rfl⟩ i3 hP) (cE_fr rfl i3 hE) (i3.2.1 hG) hi i2
      rw [a1]
      dsimp only [Option.bind_some]
      refine ⟨_, rfl, rfl, ?_, fr_tr i3 a3⟩
      rw [tlN_s, hS, if_pos rfl]
      exact a2) (fun s hI => by
    obtain ⟨i1, i2, i3⟩ := hI
    obtain ⟨s1, s2⟩ := s
    dsimp only at i1 i2 i3
    dsimp only [wX5_tallyPassing_17]
    rw [i1, (cP_fr ⟨rfl, rfl, rfl, rfl, rfl, rfl, rfl⟩ i3 hP).1, if_pos (Int32.le_refl _), zchk_t (show zin (0 : Int32) 64 = true from zin_nI (i := 0) (by omega) (by omega))]
    refine ⟨_, rfl, ?_, i3⟩
    show s2.1 (zsp s2 0) 0 = _
    rw [i2 0 (by omega), tl_end P S hE6]) (s := ((0 : Int32), g2)) ⟨rfl, hc, hF⟩
  dsimp only at q1 q2
  subst q1
  exact ⟨r2, w, q2⟩
/-- how many ways a set has -/
def nws (P : zPl) (c S : Nat) : Nat := if cmd P c S then nwb P S (pn P) (lft P c S (pn P)) else 0
theorem e_countWays (hO : pOK P) (hP : cP P g) (hE : cE P g) (hC : cC P g) (hG : g.2.2.1 ≤ 1) {c S : Nat} (hc : rOK P c) (hS : S < 2 ^ pn P) : ∃ h, nX5_countWays (nI c) (nI S) g = some (nI (nws P c S), h) ∧ fr kT g h := by
  have h6 := p2m hO
  have hl := lft_lt P c S (pn P)
  unfold nX5_countWays nws
  rw [e_canMend hO hP hE hC hc hS]
  dsimp only [Option.bind_some]
  cases cmd P c S with
  | false =>
    rw [if_pos (show (if false = true then (1 : Int32) else 0) = 0 by decide), if_neg (by decide)]
    exact ⟨g, rfl, fr_rfl _ _⟩
  | true =>
    rw [if_neg (show ¬ (if true = true then (1 : Int32) else 0) = 0 by decide), if_pos rfl, e_editsLeft hO hP hE hc]
    dsimp only [Option.bind_some]
    obtain ⟨h, a1, a2⟩ := e_tallyPassing (S := S) hO hP hE hG (show lft P c S (pn P) < 64 by omega)
    rw [a1]
    exact ⟨h, rfl, a2⟩
end Wy
