
/-! ===== what the class answers to the law ===== -/
section Ax
variable {S : zSt} {g : zS}
theorem kX_Q {K : Nat → Bool} (h : ∀ c, (kQ c && kN c) = false → K c = false) : ∀ c, kQ c = false → K c = false := fun c q => h c (by rw [q]; rfl)
theorem a_count (hc : cI S g) (x : Int32) : nX10_count x g = some (cA S.1 S.2.1.1 S.2.1.2.1 S.2.1.2.2.1 S.2.2.2.2.1 x) := by
  obtain ⟨hO, ⟨hP, hE, hC0, hL, h6, hG⟩, ⟨hR, hH, hz⟩, hT, hWr, hFl, hB⟩ := id hc
  exact e_count hO hP hE h6 hR hH.1 hWr.1
theorem a_field0 (hc : cI S g) {f : Nat} (hf : f < pn S.1) : nX10_field (nI f) 0 g = some (.inl (nI (pq S.1 f))) := by
  obtain ⟨hO, ⟨hP, hE, hC0, hL, h6, hG⟩, ⟨hR, hH, hz⟩, hT, hWr, hFl, hB⟩ := id hc
  have h5 := hO.1
  unfold nX10_field
  rw [c_needField hO hP hf, Option.bind_some, zel_i, if_pos rfl, zchk_t (zin_nI (by omega) (by omega)), nI_cl (by omega), hP.2.1 f hf]
theorem a_field1 (hc : cI S g) {f : Nat} (hf : f < pn S.1) : nX10_field (nI f) 1 g = some (.inl (nI (pw S.1 f))) := by
  obtain ⟨hO, ⟨hP, hE, hC0, hL, h6, hG⟩, ⟨hR, hH, hz⟩, hT, hWr, hFl, hB⟩ := id hc
  have h5 := hO.1
  unfold nX10_field
  rw [c_needField hO hP hf, Option.bind_some, zel_i, if_neg n01, if_pos rfl, zchk_t (zin_nI (by omega) (by omega)), nI_cl (by omega), hP.2.2.1 f hf]
theorem a_answer (hc : cI S g) {i f : Nat} (hi : i < S.2.1.1) (hf : f < pn S.1) : nX10_answer (nI i) (nI f) g = some (.inl (nJ (rv (S.2.1.2.1 i) f))) := by
  obtain ⟨hO, ⟨hP, hE, hC0, hL, h6, hG⟩, ⟨hR, hH, hz⟩, hT, hWr, hFl, hB⟩ := id hc
  have h5 := hO.1
  unfold nX10_answer
  rw [c_needRow hR hi, Option.bind_some, zel_i, c_needField hO hP hf, Option.bind_some, zel_i, e_codeOf hR hi, Option.bind_some, e_answerAt (hR.2.2 i hi).2.1 (by omega), Option.bind_some]
theorem a_tried (hc : cI S g) {m : Nat} (hm : m < 2147483648) (hD : isD S.1 m) : nX10_tried (nI m) g = some (.inl (nI (fs S.1 (dxt m (pn S.1))))) := by
  obtain ⟨hO, ⟨hP, hE, hC0, hL, h6, hG⟩, ⟨hR, hH, hz⟩, hT, hWr, hFl, hB⟩ := id hc
  rw [e_tried hO hP hE hm, if_pos hD]
theorem a_mends (hc : cI S g) (hp : pn S.1 ≠ 0) {i T : Nat} (hi : i < S.2.1.1) (hT2 : T < 2 ^ pn S.1) : nX10_mends (nI i) (nI T) g = some (.inl (if cmd S.1 (S.2.1.2.1 i) T then 1 else 0)) := by
  obtain ⟨hO, ⟨hP, hE, hC0, hL, h6, hG⟩, ⟨hR, hH, hz⟩, hT, hWr, hFl, hB⟩ := id hc
  unfold nX10_mends
  rw [c_needRow hR hi, Option.bind_some, zel_i, c_needSet hO hP hT2, Option.bind_some, zel_i, e_codeOf hR hi, Option.bind_some, e_canMend hO hP hE (hC0 hp) (hR.2.2 i hi).2 hT2, Option.bind_some, zchk_t (znb_b _)]
theorem a_ways (hc : cI S g) (hp : pn S.1 ≠ 0) {i T : Nat} (hi : i < S.2.1.1) (hT2 : T < 2 ^ pn S.1) : ∃ h, nX10_ways (nI i) (nI T) g = some (.inl (nI (nws S.1 (S.2.1.2.1 i) T)), h) ∧ cI S h ∧ fz kN g h := by
  obtain ⟨hO, ⟨hP, hE, hC0, hL, h6, hG⟩, ⟨hR, hH, hz⟩, hT, hWr, hFl, hB⟩ := id hc
  obtain ⟨k, w, ak⟩ := e_countWays hO hP hE (hC0 hp) hG (hR.2.2 i hi).2 hT2
  refine ⟨k, ?_, cI_fr (kX_Q kT_Q) ak hc, fz_fr (fr_le (fun c q => kT_Q c (by rw [q, Bool.and_false])) ak)⟩
  unfold nX10_ways
  rw [c_needRow hR hi, Option.bind_some, zel_i, c_needSet hO hP hT2, Option.bind_some, zel_i, e_codeOf hR hi, Option.bind_some, w, Option.bind_some]
theorem a_least (hc : cI S g) (hp : pn S.1 ≠ 0) {i w : Nat} (hi : i < S.2.1.1) (hw : w < 3) : nX10_least (nI i) (nI w) g = some (.inl (if w = 0 then sI (ls S.1 (S.2.1.2.1 i)) else if w = 1 then wI (lw S.1 (S.2.1.2.1 i)) else nI (cnt (lsB S.1 (S.2.1.2.1 i)) (2 ^ pn S.1)))) := by
  obtain ⟨hO, ⟨hP, hE, hC0, hL, h6, hG⟩, ⟨hR, hH, hz⟩, hT, hWr, hFl, hB⟩ := id hc
  have hC := hC0 hp
  have hri := (hR.2.2 i hi).2
  unfold nX10_least
  rw [c_needRow hR hi, Option.bind_some, zel_i, e_codeOf hR hi, Option.bind_some, e_leastSet hO hP hE hC hL hri, e_leastWeight hO hP hE hC hL hri, e_countLeast hO hP hE hC hL hri, Option.bind_some, Option.bind_some, Option.bind_some]
  have hc3 : w = 0 ∨ w = 1 ∨ w = 2 := by omega
  rcases hc3 with rfl | rfl | rfl
  · rw [if_pos (show nI 0 = 0 from rfl), if_pos rfl]
  · rw [if_neg (show ¬ nI 1 = 0 by decide), if_pos (show nI 1 = 1 from rfl), if_neg (show ¬ 1 = 0 by decide), if_pos rfl]
  · rw [if_neg (show ¬ nI 2 = 0 by decide), if_neg (show ¬ nI 2 = 1 by decide), if_pos (show nI 2 = 2 from rfl), if_neg (show ¬ 2 = 0 by decide), if_neg (show ¬ 2 = 1 by decide)]
theorem a_leastOf (hc : cI S g) (hp : pn S.1 ≠ 0) {i : Nat} (hi : i < S.2.1.1) (x : Int32) : nX10_leastOf (nI i) x g = some (.inl (kth (lsB S.1 (S.2.1.2.1 i)) (2 ^ pn S.1) x)) := by
  obtain ⟨hO, ⟨hP, hE, hC0, hL, h6, hG⟩, ⟨hR, hH, hz⟩, hT, hWr, hFl, hB⟩ := id hc
  unfold nX10_leastOf
  rw [c_needRow hR hi, Option.bind_some, zel_i, e_codeOf hR hi, Option.bind_some, e_leastAt hO hP hE (hC0 hp) hL (hR.2.2 i hi).2, Option.bind_some]
theorem a_values (hc : cI S g) (hp : pn S.1 ≠ 0) {i T f : Nat} (hi : i < S.2.1.1) (hT2 : T < 2 ^ pn S.1) (hf : f < pn S.1) : nX10_values (nI i) (nI T) (nI f) g = some (.inl (nI (vIn S.1 (S.2.1.2.1 i) T f))) := by
  obtain ⟨hO, ⟨hP, hE, hC0, hL, h6, hG⟩, ⟨hR, hH, hz⟩, hT, hWr, hFl, hB⟩ := id hc
  unfold nX10_values
  rw [c_needRow hR hi, Option.bind_some, zel_i, c_needField hO hP hf, Option.bind_some, zel_i, c_needSet hO hP hT2, Option.bind_some, zel_i, e_codeOf hR hi, Option.bind_some, e_valuesIn hO hP hE (hC0 hp) (hR.2.2 i hi).2 hT2 hf, Option.bind_some]
theorem a_forced (hc : cI S g) (hp : pn S.1 ≠ 0) {i : Nat} (hi : i < S.2.1.1) : nX10_forced (nI i) g = some (.inl (nI (frc S.1 (S.2.1.2.1 i)))) := by
  obtain ⟨hO, ⟨hP, hE, hC0, hL, h6, hG⟩, ⟨hR, hH, hz⟩, hT, hWr, hFl, hB⟩ := id hc
  unfold nX10_forced
  rw [c_needRow hR hi, Option.bind_some, zel_i, e_codeOf hR hi, Option.bind_some, e_forcedIn hO hP hE (hC0 hp) hL (hR.2.2 i hi).2, Option.bind_some]
/-- what a row would be, as the class answers it -/
def wdA (S : zSt) (i w : Nat) : Int32 := if mdd S.1 S.2.1.2.1 S.2.1.1 i w = 99999 then -1 else nI (dgt (mdd S.1 S.2.1.2.1 S.2.1.1 i w) (pn S.1))
theorem a_would (hc : cI S g) (hp : pn S.1 ≠ 0) {i w : Nat} (hi : i < S.2.1.1) (hw : w < 3) : ∃ h, nX10_would (nI i) (nI w) g = some (.inl (wdA S i w), h) ∧ cI S h ∧ fz kN g h := by
  obtain ⟨hO, ⟨hP, hE, hC0, hL, h6, hG⟩, ⟨hR, hH, hz⟩, hT, hWr, hFl, hB⟩ := id hc
  obtain ⟨k, wk, ak⟩ := e_mended hO hP hE (hC0 hp) hL hR hi (show w ≤ 2 by omega)
  have hok := mdd_ok (way := w) hO hi (fun k hk => (hR.2.2 k hk).2)
  have hP2 := cP_fr (K := kDn) ⟨rfl, rfl, rfl, rfl, rfl, rfl, rfl⟩ ak hP
  refine ⟨k, ?_, cI_fr (kX_Q kDn_Q) ak hc, fz_fr (fr_le (fun c q => kDn_Q c (by rw [q, Bool.and_false])) ak)⟩
  unfold nX10_would wdA
  rw [c_needRow hR hi, Option.bind_some, zel_i, c_needWay hw, Option.bind_some, zel_i, wk, Option.bind_some]
  unfold mI
  by_cases c : mdd S.1 S.2.1.2.1 S.2.1.1 i w = 99999
  · rw [if_pos c, if_pos c, if_pos rfl]
  · obtain ⟨o1, o2⟩ := hok c
    have := o1.1
    rw [if_neg c, if_neg c, if_neg (show ¬ nI _ = (-1 : Int32) from fun q => by rw [nI_m1, nN_eqm (by omega)] at q; exact q)]
    dsimp only
    rw [hP2.1, e_toDigits o1.1 hO.1 o2, Option.bind_some]
theorem a_within (hc : cI S g) {i : Nat} (hi : i < S.2.1.1) (full : ∀ f, f < pn S.1 → rv (S.2.1.2.1 i) f ≠ 0) (x : Int32) : ∃ h, nX10_within (nI i) x g = some (.inl (if x < 0 then -1 else wtA S.1 (S.2.1.2.1 i) x.toNatClampNeg), h) ∧ cI S h ∧ fz kN g h := by
  obtain ⟨hO, ⟨hP, hE, hC0, hL, h6, hG⟩, ⟨hR, hH, hz⟩, hT, hWr, hFl, hB⟩ := id hc
  obtain ⟨h1, w, a1, hc1, a2, a3⟩ := cI_size hc
  refine ⟨h1, ?_, hc1, kBx_N a1⟩
  have hna : nX10_needAnswers (nI i) 0 g = some (.inl ()) := c_needAnswers (S := 0) hO hP hR hi ((full_m hO _).mpr full)
  unfold nX10_within
  rw [c_needRow hR hi, Option.bind_some, zel_i, hna, Option.bind_some, zel_i, e_codeOf hR hi, Option.bind_some, e_holding hO hP (hR.2.2 i hi).2 full w a1.2.2 a3 a2, Option.bind_some, zchk_t (decide_eq_true a1.2.2)]
/-- the fields that enter a box -/
def ent (P : zPl) (X : Nat) : Nat := bS (fun f => bk X f != 2 ^ pq P f - 1) (pn P)
theorem a_box (hc : cI S g) {i : Nat} (hi : i < nB S.1) : ∃ h, nX10_box (nI i) (-1) g = some (.inl (nI (ent S.1 (bX S.1 i))), h) ∧ cI S h ∧ fz kN g h := by
  have hO := hc.1
  obtain ⟨h1, w, a1, hc1, a2⟩ := e_needBox hc hi
  have hP1 := hc1.2.1.1
  refine ⟨h1, ?_, hc1, kBx_N a1⟩
  unfold nX10_box
  rw [w, Option.bind_some]
  dsimp only [zel2]
  rw [zchk_t (decide_eq_true a1.2.2), if_pos rfl, e_entering hO hP1 a2 hi, Option.bind_some]
  rfl
end Ax
