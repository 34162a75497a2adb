
/-! ===== what the law asks, as numbers: boxes, least sets, what is mended ===== -/
section Mz
variable {P : zPl} {N : Nat} {r : Nat → Nat}
theorem sm_lt {f h : Nat → Nat} {k : Nat} : ∀ n, k < n → (∀ i, i < n → f i ≤ h i) → f k < h k → sm f n < sm h n
  | 0, hk, _, _ => absurd hk (Nat.not_lt_zero k)
  | n + 1, hk, hle, hlt => by
    rw [sm_s, sm_s]
    have h1 := hle n (by omega)
    by_cases q : k = n
    · have h2 := sm_le (f := f) (h := h) n (fun i hi => hle i (by omega))
      rw [q] at hlt
      omega
    · have h2 := sm_lt n (by omega) (fun i hi => hle i (by omega)) hlt
      omega
/-- a box that fails lies in a greatest one -/
theorem gB_ex (hO : pOK P) : ∀ (d : Nat) (B0 : Nat → Nat), sm (fun f => 32 - B0 f) (pn P) < d → (∀ f, f < pn P → B0 f ≠ 0 ∧ B0 f < 2 ^ pq P f) → (∀ a, inB B0 0 (pn P) a → fs P a ≠ 0) → ∃ B, gB P B ∧ ∀ f, f < pn P → ∀ v, (B0 f).testBit v = true → (B f).testBit v = true
  | 0, _, hd, _, _ => absurd hd (Nat.not_lt_zero _)
  | d + 1, B0, hd, h1, h2 => by
    by_cases c : ∀ f, f < pn P → ∀ v, v < pq P f → (B0 f).testBit v = false → ∃ a : Nat → Nat, a f = v ∧ (∀ i, i < pn P → i ≠ f → (B0 i).testBit (a i) = true) ∧ fs P a = 0
    · exact ⟨B0, ⟨h1, h2, c⟩, fun f hf v hv => hv⟩
    · obtain ⟨f, c⟩ := Classical.not_forall.mp c
      obtain ⟨hf, c⟩ := Classical.not_imp.mp c
      obtain ⟨v, c⟩ := Classical.not_forall.mp c
      obtain ⟨hv, c⟩ := Classical.not_imp.mp c
      obtain ⟨hb, c⟩ := Classical.not_imp.mp c
      have hq := (hO.2.1 f hf).2.1
      have hlt : 2 ^ v < 2 ^ pq P f := Nat.pow_lt_pow_right (by omega) hv
      have hor : B0 f ||| 2 ^ v < 2 ^ pq P f := Nat.or_lt_two_pow (h1 f hf).2 hlt
      have h32 : 2 ^ pq P f ≤ 2 ^ 5 := Nat.pow_le_pow_right (by omega) hq
      have hge : B0 f ≤ B0 f ||| 2 ^ v := Nat.left_le_or
      have hne : B0 f ≠ B0 f ||| 2 ^ v := fun e => by
        have := congrArg (fun z => Nat.testBit z v) e
        rw [Nat.testBit_or, hb, Nat.testBit_two_pow_self] at this
        cases this
      have hup : ∀ i, i ≠ f → upA B0 f (B0 f ||| 2 ^ v) i = B0 i := fun i hi => if_neg hi
      have huf : upA B0 f (B0 f ||| 2 ^ v) f = B0 f ||| 2 ^ v := if_pos rfl
      obtain ⟨B, g1, g2⟩ := gB_ex hO d (upA B0 f (B0 f ||| 2 ^ v)) (by
        have := sm_lt (f := fun i => 32 - upA B0 f (B0 f ||| 2 ^ v) i) (h := fun i => 32 - B0 i) (k := f) (pn P) hf (fun i _ => by
          by_cases q : i = f
          · rw [q, huf]; omega
          · rw [hup i q]; exact Nat.le_refl _) (by rw [huf]; omega)
        omega) (fun i hi => by
          by_cases q : i = f
          · rw [q, huf]; exact ⟨by have := (h1 f hf).1; omega, hor⟩
          · rw [hup i q]; exact h1 i hi) (fun a ha h0 => by
          by_cases q : (B0 f).testBit (a f) = true
          · refine h2 a (fun i _ hi => ?_) h0
            by_cases e : i = f
            · rw [e]; exact q
            · have := ha i (Nat.zero_le _) hi
              rw [hup i e] at this
              exact this
          · have hk := ha f (Nat.zero_le _) hf
            rw [huf, Nat.testBit_or, Nat.testBit_two_pow] at hk
            rw [Bool.not_eq_true] at q
            rw [q, Bool.false_or, decide_eq_true_eq] at hk
            exact c ⟨a, hk.symm, fun i hi hif => by
              have := ha i (Nat.zero_le _) hi
              rw [hup i hif] at this
              exact this, h0⟩)
      refine ⟨B, g1, fun i hi w hw => g2 i hi w ?_⟩
      by_cases e : i = f
      · rw [e, huf, Nat.testBit_or, ← e, hw, Bool.true_or]
      · rw [hup i e]; exact hw
/-- a greatest box has a number -/
theorem gB_ix (hO : pOK P) (hp : pn P ≠ 0) {B : Nat → Nat} (hB : gB P B) : ∃ i, i < nB P ∧ ∀ f, f < pn P → bk (bX P i) f = B f := by
  obtain ⟨C, hC⟩ : ∃ C : Nat → Nat, C = fun f => if f < pn P then B f else 1 := ⟨_, rfl⟩
  have h32 : ∀ i, i < 5 → C i < 32 := fun i hi => by
    rw [hC]
    dsimp only
    by_cases q : i < pn P
    · rw [if_pos q]
      have h1 := (hB.1 i q).2
      have h2 : 2 ^ pq P i ≤ 2 ^ 5 := Nat.pow_le_pow_right (by omega) (hO.2.1 i q).2.1
      omega
    · rw [if_neg q]; omega
  obtain ⟨x1, x2⟩ := (kx_range (B := C) (f := 5) (Y := kx C 5) (Nat.le_refl _) h32).mp ⟨Nat.le_refl _, Nat.lt_add_of_pos_right (Nat.pow_pos (by omega))⟩
  have hb : ∀ f, f < pn P → bk (kx C 5) f = B f := fun f hf => by
    rw [x2 f (by have := hO.1; omega), hC]
    exact if_pos hf
  have hg : gK P (kx C 5) = true := dB_t.mpr ⟨hp, fun f hf hf5 => by
    rw [x2 f hf5, hC]
    exact if_neg (by omega), (gB_congr (fun i hi => (hb i hi).symm)).mp hB⟩
  have hlt : cnt (gK P) (kx C 5) < nB P := by
    have h1 := cnt_mono (gK P) (i := kx C 5 + 1) 33554432 (by omega)
    rw [cnt_s, if_pos hg] at h1
    unfold nB
    omega
  refine ⟨_, hlt, fun f hf => ?_⟩
  obtain ⟨b1, b2, b3⟩ := bX_spec hlt
  rw [cnt_inj b2 hg b3]
  exact hb f hf
theorem all_bit {q v : Nat} (h : v < q) : (2 ^ q - 1).testBit v = true := by
  rw [Nat.testBit_two_pow_sub_one, decide_eq_true h]
/-- a set mends a full row just if it meets what enters each box that the row is in -/
theorem lw_meets (hO : pOK P) (hp : pn P ≠ 0) {c T : Nat} (hc : rOK P c) (full : ∀ f, f < pn P → rv c f ≠ 0) : cmd P c T = true ↔ ∀ i, i < nB P → hlB P c i = true → ent P (bX P i) &&& T ≠ 0 := by
  rw [cmd_iff hO hc]
  constructor
  · rintro ⟨a, w1, w2, w3⟩ i hi hh h0
    obtain ⟨b1, b2, _⟩ := bX_spec hi
    have hgB := (gK_spec b2).2.2
    unfold hlB at hh
    rw [dB_t] at hh
    refine hgB.2.1 a (fun f _ hf => ?_) w3
    cases ht : T.testBit f with
    | false =>
      have e := w2 f hf ht
      have := hh f hf
      rw [e, Nat.add_sub_cancel] at this
      exact this
    | true =>
      have e := congrArg (fun z => Nat.testBit z f) h0
      rw [Nat.testBit_and, ht, Bool.and_true, Nat.zero_testBit] at e
      unfold ent at e
      rw [bS_bit, decide_eq_true hf, Bool.true_and, bne_eq_false_iff_eq] at e
      rw [e]
      exact all_bit (w1 f hf)
  · intro h
    refine Classical.byContradiction (fun hno => ?_)
    obtain ⟨B0, hB0⟩ : ∃ B0 : Nat → Nat, B0 = fun f => if T.testBit f then 2 ^ pq P f - 1 else 2 ^ (rv c f - 1) := ⟨_, rfl⟩
    have e1 : ∀ f, T.testBit f = true → B0 f = 2 ^ pq P f - 1 := fun f q => by rw [hB0]; exact if_pos q
    have e2 : ∀ f, T.testBit f = false → B0 f = 2 ^ (rv c f - 1) := fun f q => by rw [hB0]; exact if_neg (by rw [q]; exact Bool.false_ne_true)
    have hv : ∀ f, f < pn P → rv c f - 1 < pq P f := fun f hf => by
      have h1 := hc.2.1 f hf
      have h2 := full f hf
      omega
    obtain ⟨B, g1, g2⟩ := gB_ex hO _ B0 (Nat.lt_succ_self _) (fun f hf => by
      have hq := hO.2.1 f hf
      have hpos : 2 ^ 1 ≤ 2 ^ pq P f := Nat.pow_le_pow_right (by omega) (by omega)
      cases ht : T.testBit f with
      | true => rw [e1 f ht]; omega
      | false =>
        rw [e2 f ht]
        exact ⟨Nat.ne_of_gt (Nat.pow_pos (by omega)), Nat.pow_lt_pow_right (by omega) (hv f hf)⟩) (fun a ha h0 => hno ⟨a, fun f hf => by
          have h1 := ha f (Nat.zero_le _) hf
          cases ht : T.testBit f with
          | true =>
            rw [e1 f ht, Nat.testBit_two_pow_sub_one, decide_eq_true_eq] at h1
            exact h1
          | false =>
            rw [e2 f ht, Nat.testBit_two_pow, decide_eq_true_eq] at h1
            rw [← h1]
            exact hv f hf, fun f hf ht => by
          have h1 := ha f (Nat.zero_le _) hf
          rw [e2 f ht, Nat.testBit_two_pow, decide_eq_true_eq] at h1
          have := full f hf
          omega, h0⟩)
    obtain ⟨i, hi, hbi⟩ := gB_ix hO hp g1
    refine h i hi ?_ ?_
    · unfold hlB
      rw [dB_t]
      intro f hf
      rw [hbi f hf]
      refine g2 f hf _ ?_
      cases ht : T.testBit f with
      | true => rw [e1 f ht]; exact all_bit (hv f hf)
      | false => rw [e2 f ht]; exact Nat.testBit_two_pow_self
    · apply Nat.eq_of_testBit_eq
      intro f
      rw [Nat.testBit_and, Nat.zero_testBit]
      cases ht : T.testBit f with
      | false => rw [Bool.and_false]
      | true =>
        rw [Bool.and_true]
        unfold ent
        rw [bS_bit]
        by_cases hf : f < pn P
        · rw [decide_eq_true hf, Bool.true_and, bne_eq_false_iff_eq, hbi f hf]
          apply Nat.eq_of_testBit_eq
          intro v
          rw [Nat.testBit_two_pow_sub_one]
          by_cases q : v < pq P f
          · rw [decide_eq_true q]
            exact g2 f hf v (by rw [e1 f ht]; exact all_bit q)
          · rw [decide_eq_false q]
            exact Nat.testBit_lt_two_pow (Nat.lt_of_lt_of_le (g1.1 f hf).2 (Nat.pow_le_pow_right (by omega) (by omega)))
        · rw [decide_eq_false hf, Bool.false_and]
/-- the boxes that a row is in, one behind another -/
theorem wtA_at {c t : Nat} (ht : t < cnt (hlB P c) (nB P)) : ∃ i, i < nB P ∧ hlB P c i = true ∧ cnt (hlB P c) i = t ∧ wtA P c t = nI i := by
  obtain ⟨i, h1, h2, h3⟩ := cnt_sel (p := hlB P c) _ _ ht
  have e : fstB (wtP P c t) (nB P) = i := by
    refine fstB_eq h1 ?_ (fun j hj => ?_)
    · unfold wtP
      rw [h2, h3, beq_self_eq_true]
      rfl
    · unfold wtP
      cases q : hlB P c j with
      | false => rfl
      | true =>
        rw [Bool.true_and, beq_eq_false_iff_ne]
        intro e
        have := cnt_inj q h2 (e.trans h3.symm)
        omega
  refine ⟨i, h1, h2, h3, ?_⟩
  unfold wtA
  rw [e, if_pos h1]
theorem wtA_end {c t : Nat} (ht : cnt (hlB P c) (nB P) ≤ t) : wtA P c t = -1 := by
  unfold wtA
  obtain ⟨k, hk⟩ : ∃ k, k = fstB (wtP P c t) (nB P) := ⟨_, rfl⟩
  rw [← hk, if_neg]
  intro q
  have h1 : wtP P c t k = true := by
    rw [hk]
    exact (fstB_spec (wtP P c t) (nB P)).2.2 (by rw [← hk]; exact q)
  unfold wtP at h1
  rw [Bool.and_eq_true, beq_iff_eq] at h1
  have h2 := cnt_mono (hlB P c) (i := k + 1) (nB P) (by omega)
  rw [cnt_s, if_pos h1.1] at h2
  omega
/-! least sets -/
theorem kO_lt (hO : pOK P) {c A B : Nat} (hAB : A < B) (hB : B < 32) : kO P B < kO P A ↔ wSum P B (pn P) < wSum P A (pn P) ∨ (wSum P B (pn P) = wSum P A (pn P) ∧ pcn B < pcn A) := by
  have h1 := pcn_le A
  have h2 := pcn_le B
  unfold kO
  omega
theorem kO_w {A B : Nat} (hA : A < 100) (hB : B < 100) (h : kO P A ≤ kO P B) : wSum P A (pn P) ≤ wSum P B (pn P) := by
  have h1 := pcn_le A
  have h2 := pcn_le B
  unfold kO at h
  omega
/-- the law's three: least, lightest, how many; least 99: none -/
def lwS (P : zPl) (c : Nat) (T : Nat) : Nat × Nat × Nat → Nat × Nat × Nat := fun s =>
  if 0 < nws P c T then (let w := wSum P T (pn P)
    let k := if s.1 = 99 ∨ w < s.2.1 then 1 else if w = s.2.1 then s.2.2 + 1 else s.2.2
    if s.1 = 99 ∨ w < s.2.1 ∨ (w = s.2.1 ∧ pcn T < pcn s.1) then (T, w, k) else (s.1, s.2.1, k)) else s
def lwN (P : zPl) (c n : Nat) : Nat × Nat × Nat := foN (fun T s => lwS P c T s) n (99, 0, 0)
theorem lwN_s (P : zPl) (c n : Nat) : lwN P c (n + 1) = lwS P c n (lwN P c n) := rfl
theorem lwN_spec (hO : pOK P) {c : Nat} (hc : rOK P c) : ∀ n, n ≤ 32 → (lwN P c n).1 = lsN P c n ∧ (lsN P c n ≠ 99 → (lwN P c n).2.1 = wSum P (lsN P c n) (pn P)) ∧ (lwN P c n).2.2 = cnt (fun T => cmd P c T && (lsN P c n != 99 && wSum P T (pn P) == wSum P (lsN P c n) (pn P))) n
  | 0, _ => ⟨rfl, fun h => absurd rfl h, rfl⟩
  | n + 1, hn => by
    obtain ⟨i1, i2, i3⟩ := lwN_spec hO hc n (by omega)
    rw [lwN_s, lsN_s, cnt_s]
    have hcm := nws_cmd hO (T := n) hc
    unfold lwS
    cases hm : cmd P c n with
    | false =>
      rw [hm] at hcm
      rw [if_neg (of_decide_eq_false hcm.symm), Bool.false_and, if_neg (by decide), Bool.false_and, if_neg (by decide)]
      exact ⟨i1, i2, i3⟩
    | true =>
      rw [hm] at hcm
      rw [if_pos (of_decide_eq_true hcm.symm), Bool.true_and, Bool.true_and]
      dsimp only
      rw [i1]
      by_cases h9 : lsN P c n = 99
      · have hno : ∀ S, S < n → cmd P c S = false := by
          rcases lsN_spec P c n (by omega) with q | q
          · exact q.2
          · omega
        rw [if_pos (Or.inl h9), if_pos (Or.inl h9), if_pos (by rw [h9]; rfl)]
        refine ⟨rfl, fun _ => rfl, ?_⟩
        rw [show (n != 99) = true from bne_iff_ne.mpr (by omega), Bool.true_and, beq_self_eq_true, if_pos rfl, cnt_zero (fun i hi => by rw [hno i hi, Bool.false_and])]
      · obtain ⟨q1, q2, q3⟩ := (lsN_spec P c n (by omega)).resolve_left (fun q => h9 q.1)
        have e2 := i2 h9
        have hb9 : (lsN P c n == 99) = false := beq_eq_false_iff_ne.mpr h9
        have hk := kO_lt (c := c) hO q1 (show n < 32 by omega)
        rw [hb9, Bool.false_or, e2]
        have hmin : ∀ S, S < n → cmd P c S = true → wSum P (lsN P c n) (pn P) ≤ wSum P S (pn P) := fun S hS hS2 => kO_w (by omega) (by omega) (q3 S hS hS2)
        by_cases c1 : wSum P n (pn P) < wSum P (lsN P c n) (pn P)
        · rw [if_pos (Or.inr (Or.inl c1)), if_pos (Or.inr c1), if_pos (decide_eq_true (hk.mpr (Or.inl c1)))]
          refine ⟨rfl, fun _ => rfl, ?_⟩
          rw [show (n != 99) = true from bne_iff_ne.mpr (by omega), Bool.true_and, beq_self_eq_true, if_pos rfl, cnt_zero (fun i hi => by
            cases hi2 : cmd P c i with
            | false => rw [Bool.false_and]
            | true =>
              have := hmin i hi hi2
              rw [Bool.true_and, Bool.true_and, beq_eq_false_iff_ne]
              omega)]
        · by_cases c2 : wSum P n (pn P) = wSum P (lsN P c n) (pn P)
          · rw [if_neg (show ¬ (lsN P c n = 99 ∨ wSum P n (pn P) < wSum P (lsN P c n) (pn P)) from fun q => q.elim h9 c1), if_pos c2]
            by_cases c3 : pcn n < pcn (lsN P c n)
            · rw [if_pos (Or.inr (Or.inr ⟨c2, c3⟩)), if_pos (decide_eq_true (hk.mpr (Or.inr ⟨c2, c3⟩)))]
              refine ⟨rfl, fun _ => rfl, ?_⟩
              rw [show (n != 99) = true from bne_iff_ne.mpr (by omega), Bool.true_and, beq_self_eq_true, if_pos rfl, i3, cnt_congr n (fun i hi => by
                rw [show (lsN P c n != 99) = true from bne_iff_ne.mpr h9, ← c2])]
            · rw [if_neg (show ¬ (lsN P c n = 99 ∨ wSum P n (pn P) < wSum P (lsN P c n) (pn P) ∨ (wSum P n (pn P) = wSum P (lsN P c n) (pn P) ∧ pcn n < pcn (lsN P c n))) from fun q => q.elim h9 (fun q => q.elim c1 (fun q => c3 q.2))), if_neg (by rw [decide_eq_true_eq, hk]; exact fun q => q.elim c1 (fun q => c3 q.2))]
              refine ⟨rfl, fun _ => rfl, ?_⟩
              rw [show (lsN P c n != 99) = true from bne_iff_ne.mpr h9, Bool.true_and, beq_iff_eq.mpr c2, if_pos rfl, i3, cnt_congr n (fun i hi => by
                rw [show (lsN P c n != 99) = true from bne_iff_ne.mpr h9])]
          · rw [if_neg (show ¬ (lsN P c n = 99 ∨ wSum P n (pn P) < wSum P (lsN P c n) (pn P)) from fun q => q.elim h9 c1), if_neg c2, if_neg (show ¬ (lsN P c n = 99 ∨ wSum P n (pn P) < wSum P (lsN P c n) (pn P) ∨ (wSum P n (pn P) = wSum P (lsN P c n) (pn P) ∧ pcn n < pcn (lsN P c n))) from fun q => q.elim h9 (fun q => q.elim c1 (fun q => c2 q.1))), if_neg (by rw [decide_eq_true_eq, hk]; exact fun q => q.elim c1 (fun q => c2 q.1))]
            refine ⟨rfl, fun _ => rfl, ?_⟩
            rw [show (lsN P c n != 99) = true from bne_iff_ne.mpr h9, Bool.true_and, if_neg (by rw [beq_iff_eq]; exact c2), i3, cnt_congr n (fun i hi => by
              rw [show (lsN P c n != 99) = true from bne_iff_ne.mpr h9])]
theorem lw_least (hO : pOK P) {c : Nat} (hc : rOK P c) : (lwN P c (2 ^ pn P)).1 = ls P c ∧ (ls P c ≠ 99 → (lwN P c (2 ^ pn P)).2.1 = lw P c) ∧ (lwN P c (2 ^ pn P)).2.2 = cnt (lsB P c) (2 ^ pn P) := by
  obtain ⟨h1, h2, h3⟩ := lwN_spec hO hc (2 ^ pn P) (p2n hO)
  refine ⟨h1, fun h9 => ?_, ?_⟩
  · rw [h2 h9]
    unfold lw
    rw [if_neg h9]
    rfl
  · rw [h3]
    refine cnt_congr _ (fun T hT => ?_)
    unfold lsB lw
    show (cmd P c T && (ls P c != 99 && wSum P T (pn P) == wSum P (ls P c) (pn P))) = _
    by_cases h9 : ls P c = 99
    · rw [if_pos h9, h9]
      have hw := wSum_le hO T (pn P) (Nat.le_refl _)
      have h5 := hO.1
      have e : (wSum P T (pn P) == 999) = false := beq_eq_false_iff_ne.mpr (by omega)
      rw [e, Bool.false_and]
      cases cmd P c T with
      | true => rfl
      | false => rfl
    · rw [if_neg h9, show (ls P c != 99) = true from bne_iff_ne.mpr h9, Bool.true_and, Bool.and_comm]
/-- the sets of the least weight, one behind another -/
theorem kth_at {p : Nat → Bool} {n t : Nat} (hn : n < 2147483648) (ht : t < cnt p n) : ∃ i, i < n ∧ p i = true ∧ cnt p i = t ∧ kth p n (nI t) = nI i := by
  obtain ⟨i, h1, h2, h3⟩ := cnt_sel (p := p) _ _ ht
  exact ⟨i, h1, h2, h3, kth_some (by rw [h2, h3, decide_eq_true rfl]; rfl) n hn h1⟩
theorem kth_end {p : Nat → Bool} {n t : Nat} (hn : n < 2147483648) (ht2 : t < 2147483648) (ht : cnt p n ≤ t) : kth p n (nI t) = -1 := by
  refine kth_none n (fun i hi => ?_)
  cases q : p i with
  | false => rfl
  | true =>
    rw [Bool.true_and, decide_eq_false_iff_not]
    intro e
    have h1 := cnt_le p i
    have h2 := (nN_eq (by omega) ht2).mp e
    have h3 := cnt_mono p (i := i + 1) n (by omega)
    rw [cnt_s, if_pos q] at h3
    omega
theorem cnt_up {p : Nat → Bool} {i j : Nat} (h : cnt p i < cnt p j) : i < j := by
  refine Decidable.byContradiction (fun q => ?_)
  have := cnt_mono p (i := j) i (by omega)
  omega
/-! what is mended -/
theorem cmn_of {s : zDn} (rr : Nat → Nat) (S : Nat) (h0 : 0 < s.1) : ∀ n, n ≤ s.1 → ∃ k, k < s.1 ∧ (cmn rr S s n).1 = s.2.1 k
  | 0, _ => ⟨0, h0, rfl⟩
  | n + 1, hn => by
    rw [cmn_s]
    split
    · exact cmn_of rr S h0 n (by omega)
    · exact ⟨n, by omega, rfl⟩
/-- a row mended passes, and is as it was outside of the least set -/
theorem lw_mdd (hO : pOK P) {i way : Nat} (hi : i < N) (hr : ∀ k, k < N → rOK P (r k)) (h : mdd P r N i way ≠ 99999) : fs P (fun f => rv (mdd P r N i way) f - 1) = 0 ∧ ls P (r i) ≠ 99 ∧ ∀ f, f < pn P → (ls P (r i)).testBit f = false → rv (mdd P r N i way) f = rv (r i) f := by
  have h5 := hO.1
  have rfs : ∀ {c : Nat}, rgt P c = true → fs P (fun f => rv c f - 1) = 0 := fun {c} q => by
    have hf := rgt_full q
    unfold rgt at q
    rw [Bool.and_eq_true, beq_iff_eq, beq_iff_eq, lft_full hf] at q
    exact q.2
  unfold mdd at h ⊢
  cases hrg : rgt P (r i) with
  | true =>
    rw [if_pos rfl]
    refine ⟨rfs hrg, ?_, fun f _ _ => rfl⟩
    rw [ls_rgt hO (hr i hi) hrg]
    decide
  | false =>
    rw [hrg, if_neg (show ¬ false = true by decide)] at h
    rw [if_neg (show ¬ false = true by decide)]
    by_cases h9 : ls P (r i) = 99
    · rw [if_pos h9] at h; exact absurd rfl h
    · obtain ⟨b1, b2, _⟩ := (ls_spec hO (r i)).resolve_left (fun q => h9 q.1)
      rw [if_neg h9] at h ⊢
      by_cases hw2 : way = 2
      · rw [if_pos hw2]
        obtain ⟨w1, w2, w3, _⟩ := fw_spec hO (hr i hi) b2
        refine ⟨w3.2.2, h9, fun f hf ht => ?_⟩
        have h1 : rv (r i) f = rv (fw P (r i) (ls P (r i))) f - 1 + 1 := w3.2.1 f hf ht
        have h2 := w2 f hf
        rw [h1]
        omega
      · rw [if_neg hw2] at h ⊢
        by_cases h0 : (dGt P r N i).1 = 0
        · rw [if_pos h0] at h; exact absurd rfl h
        · rw [if_neg h0]
          have hgv := dGt_gv P r N i
          have go : ∀ k, k < (dGt P r N i).1 → fs P (fun f => rv (bld (r i) (r ((dGt P r N i).2.1 k)) (ls P (r i))) f - 1) = 0 ∧ ls P (r i) ≠ 99 ∧ ∀ f, f < pn P → (ls P (r i)).testBit f = false → rv (bld (r i) (r ((dGt P r N i).2.1 k)) (ls P (r i))) f = rv (r i) f := fun k hk => by
            have h1 := (hgv k hk).2
            unfold gvB at h1
            rw [Bool.and_eq_true] at h1
            refine ⟨rfs h1.2, h9, fun f hf ht => ?_⟩
            rw [rv_bld (by omega), ht, if_neg (by decide)]
          by_cases hw1 : way = 1
          · rw [if_pos hw1]
            obtain ⟨k, hk, ek⟩ := cmn_of r (ls P (r i)) (s := dGt P r N i) (by omega) _ (Nat.le_refl _)
            rw [ek]
            exact go k hk
          · rw [if_neg hw1]
            exact go 0 (by omega)
/-- by way 2 a row that some set mends is mended -/
theorem lw_mdd2 (hO : pOK P) {i : Nat} (hi : i < N) (hr : ∀ k, k < N → rOK P (r k)) (h9 : ls P (r i) ≠ 99) : mdd P r N i 2 ≠ 99999 := by
  unfold mdd
  cases hrg : rgt P (r i) with
  | true => rw [if_pos rfl]; have := (hr i hi).1; omega
  | false =>
    obtain ⟨b1, b2, _⟩ := (ls_spec hO (r i)).resolve_left (fun q => h9 q.1)
    rw [if_neg (show ¬ false = true by decide), if_neg h9, if_pos rfl]
    have := (fw_spec hO (hr i hi) b2).1.1
    omega
end Mz
