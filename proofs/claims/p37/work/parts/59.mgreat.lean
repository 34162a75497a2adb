
/-! ===== the reference's boxes: which are greatest ===== -/
section Mg
variable {P : zPl} {g : zS} {D : Nat → Nat}
theorem dfB_fs (hO : pOK P) {a : Nat → Nat} (ha : ∀ f, f < 5 → a f < mq P f) : dfB P (fno a 5) = (fs P a != 0) := by
  have h5 := hO.1
  obtain ⟨_, v2⟩ := vo_fno (a := a) (Nat.le_refl 5) (fun f hf => Nat.lt_of_lt_of_le (ha f hf) (mq_le hO f).2)
  have e : ∀ f, f < 5 → vo (fno a 5) f = a f := fun f hf => by rw [v2 f hf, if_pos hf]
  have hi : isF5 P (fno a 5) = true := by
    unfold isF5
    rw [alB_iff]
    intro f hf
    rw [e f hf]
    exact decide_eq_true (ha f hf)
  unfold dfB fsM
  rw [hi, if_pos rfl, Bool.true_and, fs_congr P (fun f hf => e f (by omega))]
/-- a greatest box, by all five fields -/
def gM (P : zPl) (D : Nat → Nat) : Prop := (∀ f, f < 5 → D f ≠ 0 ∧ D f < 2 ^ mq P f) ∧ (∀ a, inB D 0 5 a → dfB P (fno a 5) = true) ∧ ∀ f, f < 5 → ∀ v, v < mq P f → (D f).testBit v = false → ∃ a : Nat → Nat, a f = v ∧ (∀ i, i < 5 → i ≠ f → (D i).testBit (a i) = true) ∧ dfB P (fno a 5) = false
theorem mq_in {f : Nat} (hf : f < pn P) : mq P f = pq P f := if_pos hf
theorem mq_out {f : Nat} (hf : pn P ≤ f) : mq P f = 1 := if_neg (by omega)
theorem bit_01 {v : Nat} : (1 : Nat).testBit v = true ↔ v = 0 := by
  rw [show (1 : Nat) = 2 ^ 0 from rfl, Nat.testBit_two_pow, decide_eq_true_eq]
  exact ⟨fun h => h.symm, fun h => h.symm⟩
theorem gK_gM (hO : pOK P) (X : Nat) : gK P X = true ↔ gM P (bk X) := by
  have h5 := hO.1
  rw [gK_t]
  constructor
  · rintro ⟨h0, h1, h2, h3, h4⟩
    have hs : ∀ f, f < 5 → bk X f ≠ 0 ∧ bk X f < 2 ^ mq P f := fun f hf => by
      by_cases q : f < pn P
      · rw [mq_in q]; exact h2 f q
      · rw [mq_out (by omega), h1 f (by omega) hf]; decide
    have hr : ∀ a : Nat → Nat, (∀ f, f < 5 → (bk X f).testBit (a f) = true) → ∀ f, f < 5 → a f < mq P f := fun a ha f hf => big_bit (hs f hf).2 (ha f hf)
    refine ⟨hs, fun a ha => ?_, fun f hf v hv hb => ?_⟩
    · rw [dfB_fs hO (hr a (fun f hf => ha f (Nat.zero_le f) hf))]
      have := h3 a (fun f h hf => ha f h (by omega))
      simpa using this
    · have hfn : f < pn P := by
        by_cases q : f < pn P
        · exact q
        · rw [mq_out (by omega)] at hv
          rw [h1 f (by omega) hf] at hb
          rw [show v = 0 by omega, bit_01.mpr rfl] at hb
          cases hb
      rw [mq_in hfn] at hv
      obtain ⟨a, a1, a2, a3⟩ := h4 f hfn v hv hb
      refine ⟨fun i => if i < pn P then a i else 0, by dsimp only; rw [if_pos hfn, a1], fun i hi hif => ?_, ?_⟩
      · dsimp only
        by_cases q : i < pn P
        · rw [if_pos q]; exact a2 i q hif
        · rw [if_neg q, h1 i (by omega) hi]; exact bit_01.mpr rfl
      · rw [dfB_fs hO (fun i hi => ?_), fs_congr P (b := a) (fun i hi => if_pos hi), a3]
        · rfl
        · by_cases q : i < pn P
          · rw [if_pos q, mq_in q]
            by_cases q2 : i = f
            · rw [q2, a1]; exact hv
            · exact big_bit (h2 i q).2 (a2 i q q2)
          · rw [if_neg q, mq_out (by omega)]; omega
  · rintro ⟨h2, h3, h4⟩
    have h1 : ∀ f, pn P ≤ f → f < 5 → bk X f = 1 := fun f hf hf5 => by
      have := h2 f hf5
      rw [mq_out hf] at this
      omega
    have hr : ∀ a : Nat → Nat, (∀ f, f < pn P → a f < pq P f) → ∀ f, f < 5 → (if f < pn P then a f else 0) < mq P f := fun a ha f hf => by
      by_cases q : f < pn P
      · rw [if_pos q, mq_in q]; exact ha f q
      · rw [if_neg q, mq_out (by omega)]; omega
    have hd : ∀ a : Nat → Nat, (∀ f, f < pn P → a f < pq P f) → dfB P (fno (fun f => if f < pn P then a f else 0) 5) = (fs P a != 0) := fun a ha => by
      rw [dfB_fs hO (hr a ha), fs_congr P (b := a) (fun i hi => if_pos hi)]
    have h0 : pn P ≠ 0 := fun q => by
      have h6 := h3 (fun f => if f < pn P then 0 else 0) (fun f _ hf => by
        dsimp only
        rw [h1 f (by omega) hf, if_neg (by omega)]; exact bit_01.mpr rfl)
      rw [hd (fun _ => 0) (fun f hf => by omega)] at h6
      have h7 : fs P (fun _ => 0) < 2 ^ pm P := bS_lt _ _
      rw [hO.2.2.2.2.2.2 q, Nat.pow_zero] at h7
      rw [show fs P (fun _ => 0) = 0 by omega] at h6
      cases h6
    have hs : ∀ f, f < pn P → bk X f ≠ 0 ∧ bk X f < 2 ^ pq P f := fun f hf => by
      have := h2 f (by omega)
      rw [mq_in hf] at this
      exact this
    refine ⟨h0, h1, hs, fun a ha h => ?_, fun f hf v hv hb => ?_⟩
    · have h6 := h3 (fun f => if f < pn P then a f else 0) (fun f _ hf => by
        by_cases q : f < pn P
        · dsimp only; rw [if_pos q]; exact ha f (Nat.zero_le f) q
        · dsimp only; rw [if_neg q, h1 f (by omega) hf]; exact bit_01.mpr rfl)
      rw [hd a (fun f hf => big_bit (hs f hf).2 (ha f (Nat.zero_le f) hf)), h] at h6
      cases h6
    · obtain ⟨a, a1, a2, a3⟩ := h4 f (by omega) v (by rw [mq_in hf]; exact hv) hb
      refine ⟨a, a1, fun i hi hif => a2 i (by omega) hif, ?_⟩
      rw [dfB_fs hO (fun i hi => ?_)] at a3
      · simpa using a3
      · by_cases q2 : i = f
        · rw [q2, a1, mq_in hf]; exact hv
        · exact big_bit (h2 i hi).2 (a2 i hi q2)
/-- a value of the last field fails behind all values of the sets of the others -/
def lsP (P : zPl) (D : Nat → Nat) (z : Nat) : Prop := ∀ a : Nat → Nat, (∀ f, f < 4 → (D f).testBit (a f) = true) → a 4 = z → dfB P (fno a 5) = true
theorem lsP_congr {C : Nat → Nat} {z : Nat} (h : ∀ f, f < 4 → D f = C f) : lsP P D z ↔ lsP P C z := ⟨fun k a ha => k a (fun f hf => by rw [h f hf]; exact ha f hf), fun k a ha => k a (fun f hf => by rw [← h f hf]; exact ha f hf)⟩
theorem m_lastOfD (hO : pOK P) (hM : mP P g) (hF : mF P g) (hD : ∀ f, f < 4 → D f < 32) : ∃ u, nX11_lastOf (nI (D 0)) (nI (D 1)) (nI (D 2)) (nI (D 3)) g = some (nI u) ∧ u < 2 ^ mq P 4 ∧ ∀ z, u.testBit z = true ↔ z < mq P 4 ∧ lsP P D z := by
  obtain ⟨u, a1, a2, a3⟩ := m_lastOf hO hM hF (hD 0 (by omega)) (hD 1 (by omega)) (hD 2 (by omega)) (hD 3 (by omega))
  refine ⟨u, a1, a2, fun z => ?_⟩
  rw [a3 z]
  constructor
  · rintro ⟨h1, h2⟩
    refine ⟨h1, fun a ha hz => ?_⟩
    have b : ∀ f, f < 4 → a f < 5 := fun f hf => big_bit (n := 5) (hD f hf) (ha f hf)
    have h3 := h2 (a 0) (b 0 (by omega)) (ha 0 (by omega)) (a 1) (b 1 (by omega)) (ha 1 (by omega)) (a 2) (b 2 (by omega)) (ha 2 (by omega)) (a 3) (b 3 (by omega)) (ha 3 (by omega))
    rw [fno_5, hz]
    exact h3
  · rintro ⟨h1, h2⟩
    refine ⟨h1, fun v _ hv w _ hw x _ hx y _ hy => ?_⟩
    have h3 := h2 (fun f => if f = 0 then v else if f = 1 then w else if f = 2 then x else if f = 3 then y else z) (fun f hf => by
      have hc : f = 0 ∨ f = 1 ∨ f = 2 ∨ f = 3 := by omega
      rcases hc with rfl | rfl | rfl | rfl
      · exact hv
      · exact hw
      · exact hx
      · exact hy) rfl
    rw [fno_5] at h3
    exact h3
/-- a further value that hurts no form -/
def fvP (P : zPl) (D : Nat → Nat) (L f v : Nat) : Prop := ∀ z, L.testBit z = true → lsP P (upA D f (2 ^ v)) z
theorem upA_lt {f v : Nat} (hv : v < 5) (hD : ∀ i, i < 4 → D i < 32) : ∀ i, i < 4 → upA D f (2 ^ v) i < 32 := fun i hi => by
  unfold upA
  split
  · exact (show 2 ^ v < 2 ^ 5 from Nat.pow_lt_pow_right (by omega) hv)
  · exact hD i hi
theorem m_isG124 (hO : pOK P) (hM : mP P g) (hF : mF P g) (hD : ∀ i, i < 4 → D i < 32) {L f v : Nat} (hL : L < 2 ^ mq P 4) (hv : v < 5) (b1 b2 b3 b4 : Int32) : jX11_isGreatest_124 b1 b2 b3 b4 (nI L) (nI f) (nI v) (nI (upA D f (2 ^ v) 0)) (nI (upA D f (2 ^ v) 1)) (nI (upA D f (2 ^ v) 2)) (nI (upA D f (2 ^ v) 3)) g = if dB (fvP P D L f v) then some (.inr (.inr 0)) else some (.inl (nI (v + 1))) := by
  have h32 := mq32 hO 4
  obtain ⟨u, a1, a2, a3⟩ := m_lastOfD hO hM hF (upA_lt (f := f) hv hD)
  unfold jX11_isGreatest_124
  have hle : L &&& (u ^^^ 4294967295) ≤ L := Nat.and_le_left
  rw [a1, Option.bind_some, nI_m1, nI_xor, nI_and, nI_s]
  by_cases c : fvP P D L f v
  · rw [dB_t.mpr c, if_pos rfl, if_pos]
    · rfl
    · rw [(sub_not (show L < 32 by omega)).mpr (fun z hz => (a3 z).mpr ⟨big_bit hL hz, c z hz⟩)]; rfl
  · rw [dB_f.mpr c, if_neg (show ¬ false = true by decide), if_neg]
    intro q
    exact c (fun z hz => ((a3 z).mp ((sub_not (show L < 32 by omega)).mp ((nN_eq0 (by omega)).mp q) z hz)).2)
theorem m_isG54 (hO : pOK P) (hM : mP P g) (hF : mF P g) (hD : ∀ i, i < 4 → D i < 32) {L f v : Nat} (hL : L < 2 ^ mq P 4) (hf : f < 4) (hv : v < 5) : jX11_isGreatest_54 (nI (D 0)) (nI (D 1)) (nI (D 2)) (nI (D 3)) (nI L) (nI f) (nI v) (nI (D f)) g = if (!(D f).testBit v && dB (fvP P D L f v)) then some (.inr (.inr 0)) else some (.inl (nI (v + 1))) := by
  have hDf := hD f hf
  unfold jX11_isGreatest_54
  rw [m_has (by omega) (by omega), Option.bind_some]
  cases hb : (D f).testBit v with
  | true => rw [if_neg (show ¬ (if true = true then (1 : Int32) else 0) = 0 by decide), nI_s]; rfl
  | false =>
    have hG := fun b1 b2 b3 b4 => m_isG124 (g := g) hO hM hF hD (f := f) hL hv b1 b2 b3 b4
    rw [if_pos (show (if false = true then (1 : Int32) else 0) = 0 by decide), nI_shl (by omega), Bool.not_false, Bool.true_and]
    have hc : f = 0 ∨ f = 1 ∨ f = 2 ∨ f = 3 := by omega
    rcases hc with rfl | rfl | rfl | rfl
    · rw [if_pos (show nI 0 = 0 from rfl)]
      unfold jX11_isGreatest_87
      rw [if_neg (show ¬ nI 0 = (1 : Int32) by decide)]
      unfold jX11_isGreatest_99
      rw [if_neg (show ¬ nI 0 = (2 : Int32) by decide)]
      unfold jX11_isGreatest_111
      rw [if_neg (show ¬ nI 0 = (3 : Int32) by decide)]
      exact hG _ _ _ _
    · rw [if_neg (show ¬ nI 1 = 0 by decide)]
      unfold jX11_isGreatest_87
      rw [if_pos (show nI 1 = (1 : Int32) by decide)]
      unfold jX11_isGreatest_99
      rw [if_neg (show ¬ nI 1 = (2 : Int32) by decide)]
      unfold jX11_isGreatest_111
      rw [if_neg (show ¬ nI 1 = (3 : Int32) by decide)]
      exact hG _ _ _ _
    · rw [if_neg (show ¬ nI 2 = 0 by decide)]
      unfold jX11_isGreatest_87
      rw [if_neg (show ¬ nI 2 = (1 : Int32) by decide)]
      unfold jX11_isGreatest_99
      rw [if_pos (show nI 2 = (2 : Int32) by decide)]
      unfold jX11_isGreatest_111
      rw [if_neg (show ¬ nI 2 = (3 : Int32) by decide)]
      exact hG _ _ _ _
    · rw [if_neg (show ¬ nI 3 = 0 by decide)]
      unfold jX11_isGreatest_87
      rw [if_neg (show ¬ nI 3 = (1 : Int32) by decide)]
      unfold jX11_isGreatest_99
      rw [if_neg (show ¬ nI 3 = (2 : Int32) by decide)]
      unfold jX11_isGreatest_111
      rw [if_pos (show nI 3 = (3 : Int32) by decide)]
      exact hG _ _ _ _
theorem m_isGreatest (hO : pOK P) (hM : mP P g) (hF : mF P g) (hD : ∀ i, i < 4 → D i < 32) {L : Nat} (hL : L < 2 ^ mq P 4) : nX11_isGreatest (nI (D 0)) (nI (D 1)) (nI (D 2)) (nI (D 3)) (nI L) g = some (if dB (∀ f, f < 4 → ∀ v, v < mq P f → (D f).testBit v = false → ¬ fvP P D L f v) then 1 else 0) := by
  have hin : ∀ f, f < 4 → wh (wX11_isGreatest_12 (nI (D 0)) (nI (D 1)) (nI (D 2)) (nI (D 3)) (nI L) (nI f) g) (0 : Int32) = some (if fstB (fun v => !(D f).testBit v && dB (fvP P D L f v)) (mq P f) < mq P f then (Sum.inr 0 : Int32 ⊕ Int32) else Sum.inl (nI (f + 1))) := fun f hf => by
    have hq := mq_le hO f
    have body : ∀ v, v < mq P f → wX11_isGreatest_12 (nI (D 0)) (nI (D 1)) (nI (D 2)) (nI (D 3)) (nI L) (nI f) g (nI v) = if (!(D f).testBit v && dB (fvP P D L f v)) then some (.inr (.inr 0)) else some (.inl (nI (v + 1))) := fun v hv => by
      dsimp only [wX11_isGreatest_12]
      rw [m_manyOf hO hM (by omega : f < 5), Option.bind_some, if_neg (by rw [nN_le (by omega) (by omega)]; omega)]
      have h54 := m_isG54 (v := v) hO hM hF hD hL hf (by omega)
      have hc : f = 0 ∨ f = 1 ∨ f = 2 ∨ f = 3 := by omega
      rcases hc with rfl | rfl | rfl | rfl
      · rw [if_pos (show nI 0 = 0 from rfl)]; exact h54
      · rw [if_neg (show ¬ nI 1 = 0 by decide), if_pos (show nI 1 = (1 : Int32) by decide)]; exact h54
      · rw [if_neg (show ¬ nI 2 = 0 by decide), if_neg (show ¬ nI 2 = (1 : Int32) by decide), if_pos (show nI 2 = (2 : Int32) by decide)]; exact h54
      · rw [if_neg (show ¬ nI 3 = 0 by decide), if_neg (show ¬ nI 3 = (1 : Int32) by decide), if_neg (show ¬ nI 3 = (2 : Int32) by decide)]; exact h54
    refine wh_fst (fun v => !(D f).testBit v && dB (fvP P D L f v)) (fun v => nI v) (mq P f) (fun _ => (Sum.inr 0 : Int32 ⊕ Int32)) (Sum.inl (nI (f + 1))) (fun v hv hp => ?_) (fun v hv hp => ?_) ?_
    · rw [body v hv, if_neg (by rw [hp]; decide)]
    · rw [body v hv, if_pos hp]
    · dsimp only [wX11_isGreatest_12]
      rw [m_manyOf hO hM (by omega : f < 5), Option.bind_some, if_pos (Int32.le_refl _), nI_s]
      rfl
  unfold nX11_isGreatest
  have key := wh_fst (step := wX11_isGreatest_3 (nI (D 0)) (nI (D 1)) (nI (D 2)) (nI (D 3)) (nI L) g) (fun f => decide (fstB (fun v => !(D f).testBit v && dB (fvP P D L f v)) (mq P f) < mq P f)) (fun f => nI f) 4 (fun _ => (0 : Int32)) (1 : Int32) (fun f hf hp => by
    dsimp only [wX11_isGreatest_3]
    rw [if_neg (by rw [show (4 : Int32) = nI 4 from rfl, nN_le (by omega) (by omega)]; omega), hin f hf, if_neg (of_decide_eq_false hp)]) (fun f hf hp => by
    dsimp only [wX11_isGreatest_3]
    rw [if_neg (by rw [show (4 : Int32) = nI 4 from rfl, nN_le (by omega) (by omega)]; omega), hin f hf, if_pos (of_decide_eq_true hp)]) (by
    dsimp only [wX11_isGreatest_3]
    rw [if_pos (show (4 : Int32) ≤ nI 4 from Int32.le_refl _)]
    rfl)
  rw [show (0 : Int32) = nI 0 from rfl, key]
  obtain ⟨a, b, c⟩ := fstB_spec (fun f => decide (fstB (fun v => !(D f).testBit v && dB (fvP P D L f v)) (mq P f) < mq P f)) 4
  generalize fstB (fun f => decide (fstB (fun v => !(D f).testBit v && dB (fvP P D L f v)) (mq P f) < mq P f)) 4 = k at a b c
  by_cases q : k < 4
  · have h1 := of_decide_eq_true (c q)
    have h2 := (fstB_spec (fun v => !(D k).testBit v && dB (fvP P D L k v)) (mq P k)).2.2 h1
    rw [Bool.and_eq_true, dB_t] at h2
    rw [if_pos q, dB_f.mpr, if_neg (by decide)]
    · rfl
    · intro hc
      exact hc k q _ h1 (by simpa using h2.1) h2.2
  · rw [if_neg q, dB_t.mpr, if_pos rfl]
    intro f hf v hv hb hfv
    have h1 := of_decide_eq_false (b f (by omega))
    have h2 := (fstB_spec (fun v => !(D f).testBit v && dB (fvP P D L f v)) (mq P f))
    have h3 := h2.2.1 v (by omega)
    rw [hb, dB_t.mpr hfv] at h3
    cases h3
/-- the reference finds the greatest boxes -/
theorem gM_iff (hO : pOK P) {L : Nat} (hL : L < 2 ^ mq P 4) (hz : ∀ z, L.testBit z = true ↔ z < mq P 4 ∧ lsP P D z) (hD : ∀ f, f < 4 → D f ≠ 0 ∧ D f < 2 ^ mq P f) : gM P (upA D 4 L) ↔ L ≠ 0 ∧ ∀ f, f < 4 → ∀ v, v < mq P f → (D f).testBit v = false → ¬ fvP P D L f v := by
  have eL : upA D 4 L 4 = L := if_pos rfl
  have eD : ∀ f, f < 4 → upA D 4 L f = D f := fun f hf => if_neg (by omega)
  constructor
  · rintro ⟨h1, h2, h3⟩
    refine ⟨by have := (h1 4 (by omega)).1; rw [eL] at this; exact this, fun f hf v hv hb hfv => ?_⟩
    obtain ⟨a, a1, a2, a3⟩ := h3 f (by omega) v hv (by rw [eD f hf]; exact hb)
    have h4 := a2 4 (by omega) (by omega)
    rw [eL] at h4
    have h5 := hfv (a 4) h4 a (fun i hi => by
      unfold upA
      by_cases q : i = f
      · rw [if_pos q, q, a1, Nat.testBit_two_pow_self]
      · rw [if_neg q]
        have h6 := a2 i (by omega) q
        rw [eD i hi] at h6
        exact h6) rfl
    rw [h5] at a3
    cases a3
  · rintro ⟨h1, h2⟩
    refine ⟨fun f hf => ?_, fun a ha => ?_, fun f hf v hv hb => ?_⟩
    · by_cases q : f = 4
      · rw [q, eL]; exact ⟨h1, hL⟩
      · rw [eD f (by omega)]; exact hD f (by omega)
    · have h4 := ha 4 (by omega) (by omega)
      rw [eL, hz] at h4
      exact h4.2 a (fun f hf => by have := ha f (Nat.zero_le f) (by omega); rw [eD f hf] at this; exact this) rfl
    · by_cases q : f = 4
      · subst q
        rw [eL] at hb
        have h4 : ¬ lsP P D v := fun k => by rw [(hz v).mpr ⟨hv, k⟩] at hb; cases hb
        refine Classical.byContradiction (fun h5 => h4 (fun a ha hav => ?_))
        cases h6 : dfB P (fno a 5) with
        | true => rfl
        | false => exact (h5 ⟨a, hav, fun i hi hif => by rw [eD i (by omega)]; exact ha i (by omega), h6⟩).elim
      · rw [eD f (by omega)] at hb
        have h4 := h2 f (by omega) v hv hb
        refine Classical.byContradiction (fun h5 => h4 (fun z hzL a ha haz => ?_))
        cases h6 : dfB P (fno a 5) with
        | true => rfl
        | false =>
          refine (h5 ⟨a, ?_, fun i hi hif => ?_, h6⟩).elim
          · have h7 := ha f (by omega)
            unfold upA at h7
            rw [if_pos rfl, Nat.testBit_two_pow, decide_eq_true_eq] at h7
            exact h7.symm
          · by_cases q2 : i = 4
            · rw [q2, eL, haz]; exact hzL
            · rw [eD i (by omega)]
              have h7 := ha i (by omega)
              unfold upA at h7
              rw [if_neg hif] at h7
              exact h7
end Mg
