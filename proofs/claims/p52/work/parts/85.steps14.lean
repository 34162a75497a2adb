
/-! ===== steps: mend, mendAll, trial ===== -/
section S14
variable {S S' : zSt} {g h k : zS} {P : zPl} {N K : Nat} {r : Nat → Nat} {hN : Nat → Nat} {hr : Nat → Nat → Nat}
/-- how many fields differ; what they weigh -/
def oC (P : zPl) (b : Bool) (c m n : Nat) : Nat := sm (fun f => if rv c f = rv m f then 0 else if b then pw P f else 1) n
theorem oC_le (hO : pOK P) (b : Bool) (c m : Nat) : ∀ n, n ≤ pn P → oC P b c m n ≤ 9 * n
  | 0, _ => Nat.le_refl _
  | n + 1, h => by
    have ih := oC_le hO b c m n (by omega)
    have hw := (hO.2.1 n (by omega)).2.2.2.1
    show sm _ (n + 1) ≤ _
    rw [sm_s]
    have : (if rv c n = rv m n then 0 else if b then pw P n else 1) ≤ 9 := by
      by_cases q : rv c n = rv m n
      · rw [if_pos q]; omega
      · rw [if_neg q]
        cases b with
        | true => rw [if_pos rfl]; omega
        | false => rw [if_neg (by decide)]; omega
    have ih' : sm (fun f => if rv c f = rv m f then 0 else if b then pw P f else 1) n ≤ 9 * n := ih
    omega
theorem un_bit (c m f : Nat) : (bS (fun f => rv c f != rv m f) 5).testBit f = true ↔ f < 5 ∧ rv c f ≠ rv m f := by
  rw [bS_bit, Bool.and_eq_true, decide_eq_true_eq, bne_iff_ne]
theorem un_pcn (hO : pOK P) {c m : Nat} (hc : rOK P c) (hm : rOK P m) : pcn (bS (fun f => rv c f != rv m f) 5) = oC P false c m (pn P) := by
  have h5 := hO.1
  show sm (fun i => if (bS (fun f => rv c f != rv m f) 5).testBit i then 1 else 0) 6 = _
  rw [sm_cut (m := pn P) (by omega) (fun i h1 h2 => if_neg (fun q => ?_))]
  · refine sm_congr _ (fun i hi => ?_)
    by_cases q : rv c i = rv m i
    · rw [if_pos q, if_neg (fun e => ((un_bit c m i).mp e).2 q)]
    · rw [if_neg q, if_pos ((un_bit c m i).mpr ⟨by omega, q⟩)]
      rfl
  · obtain ⟨a1, a2⟩ := (un_bit c m i).mp q
    exact a2 (by rw [hc.2.2 i h1 a1, hm.2.2 i h1 a1])
theorem wSum_sm (P : zPl) (T : Nat) : ∀ n, wSum P T n = sm (fun f => if T.testBit f then pw P f else 0) n
  | 0 => rfl
  | n + 1 => by
    rw [sm_s, ← wSum_sm P T n]
    show (if T.testBit n then wSum P T n + pw P n else wSum P T n) = _
    by_cases q : T.testBit n = true
    · rw [if_pos q, if_pos q]
    · rw [if_neg q, if_neg q]; rfl
theorem un_wS (hO : pOK P) (c m : Nat) : wSum P (bS (fun f => rv c f != rv m f) 5) (pn P) = oC P true c m (pn P) := by
  have h5 := hO.1
  rw [wSum_sm]
  refine sm_congr _ (fun i hi => ?_)
  by_cases q : rv c i = rv m i
  · rw [if_pos q, if_neg (fun e => ((un_bit c m i).mp e).2 q)]
  · rw [if_neg q, if_pos ((un_bit c m i).mpr ⟨by omega, q⟩)]
    rfl
theorem un_lt (c m : Nat) : bS (fun f => rv c f != rv m f) 5 < 64 := Nat.lt_of_lt_of_le (bS_lt _ _) (by decide)
theorem vo_m (hO : pOK P) {m : Nat} (hm : rOK P m) (hf : ∀ f, f < pn P → rv m f ≠ 0) {f : Nat} (h : f < pn P) : fno (fun f => rv m f - 1) (pn P) < 3125 ∧ nI (vo (fno (fun f => rv m f - 1) (pn P)) f) = nJ (rv m f) := by
  have h5 := hO.1
  obtain ⟨a1, a2⟩ := vo_fno (a := fun f => rv m f - 1) h5 (fun e he => by have := hm.2.1 e he; have := (hO.2.1 e he).2.1; omega)
  refine ⟨a1, ?_⟩
  rw [a2 f (by omega), if_pos h, nJ_pp (by have := hf f h; omega)]
theorem kDn_S (a : fr kDn g h) (p : cI S g) : cI S h := cI_fr (fun c hc => by
  unfold kQ at hc
  simp only [Bool.or_eq_false_iff] at hc
  exact hc.1.1.2) a p
theorem kDn_N (a : fr kDn g h) : fr kN g h := fr_le (fun c hc => by
  unfold kN at hc
  rw [Bool.or_eq_false_iff, decide_eq_false_iff_not] at hc
  unfold kDn
  rw [Bool.and_eq_false_iff, decide_eq_false_iff_not, decide_eq_false_iff_not]
  omega) a
end S14
