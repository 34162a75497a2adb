
/-! ===== the reference's scratch; its leastOf, forced ===== -/
/-- places that the reference writes on the way -/
def scB (c k : Nat) : Bool := (c == 42 && (k == 0 || k == 36 || k == 42)) || c == 60 || (decide (63 ≤ c) && decide (c ≤ 70))
def sc (g h : zS) : Prop := (∀ c k, scB c k = false → h.1 c k = g.1 c k) ∧ h.2 = g.2
section Sc
variable {P : zPl} {g h : zS} {N : Nat} {r : Nat → Nat}
theorem sc_rfl (g : zS) : sc g g := ⟨fun _ _ _ => rfl, rfl⟩
theorem sc_tr {g h k : zS} (a : sc g h) (b : sc h k) : sc g k := ⟨fun c i q => (b.1 c i q).trans (a.1 c i q), b.2.trans a.2⟩
theorem sc_zi {c k : Nat} (q : scB c k = true) (g : zS) (v : Int32) : sc g (zi g c k v) := ⟨fun d i hd => zi_else _ _ (fun e => by rw [e.1, e.2, q] at hd; cases hd), rfl⟩
theorem sc_zc {c : Nat} (q : ∀ k, scB c k = true) (g : zS) (k : Nat) (v : Int32) : sc g (zi g c k v) := sc_zi (q k) g v
theorem mP_sc (a : sc g h) (p : mP P g) : mP P h := by
  unfold mP at p ⊢
  rw [a.1 42 16 rfl, a.1 42 17 rfl, a.1 42 19 rfl]
  exact ⟨p.1, p.2.1, p.2.2.1, fun f hf => (a.1 51 f rfl).trans (p.2.2.2.1 f hf), fun f hf => (a.1 52 f rfl).trans (p.2.2.2.2.1 f hf), fun f hf => (a.1 53 f rfl).trans (p.2.2.2.2.2.1 f hf), fun e he f hf => (a.1 54 _ rfl).trans (p.2.2.2.2.2.2.1 e he f hf), fun f hf => (a.1 58 f rfl).trans (p.2.2.2.2.2.2.2 f hf)⟩
theorem mF_sc (a : sc g h) (p : mF P g) : mF P h := fun x hx => by rw [a.1 57 x rfl, a.1 56 x rfl]; exact p x hx
theorem mR_sc (a : sc g h) (p : mR P N r g) : mR P N r h := ⟨(a.1 42 18 rfl).trans p.1, p.2.1, fun k hk => ⟨fun f hf => (a.1 55 _ rfl).trans ((p.2.2 k hk).1 f hf), (p.2.2 k hk).2⟩⟩
/-- a loop that counts down to a place -/
theorem wh_kth {R : Type} {step : Int32 × Int32 → Option ((Int32 × Int32) ⊕ R)} (p : Nat → Bool) (N : Nat) (hN : N < 2147483648) (K : Int32) (A : Nat → R) (B : R) (h1 : ∀ i l, i < N → p i = false → step (l, nI i) = some (.inl (l, nI (i + 1)))) (h2 : ∀ i l, i < N → p i = true → step (l, nI i) = if l = 0 then some (.inr (A i)) else some (.inl (l + (-1 : Int32), nI (i + 1)))) (h3 : ∀ l, step (l, nI N) = some (.inr B)) : wh step (K, (0 : Int32)) = some (if fstB (fun i => p i && decide (nI (cnt p i) = K)) N < N then A (fstB (fun i => p i && decide (nI (cnt p i) = K)) N) else B) := by
  have hsub : ∀ i, (K - nI (cnt p i) = 0) ↔ nI (cnt p i) = K := fun i => by
    constructor
    · intro q
      have := congrArg (fun z => z + nI (cnt p i)) q
      rw [Int32.sub_add_cancel, Int32.zero_add] at this
      exact this.symm
    · intro q
      rw [q, Int32.sub_self]
  have key := wh_fst (step := step) (fun i => p i && decide (nI (cnt p i) = K)) (fun i => (K - nI (cnt p i), nI i)) N A B (fun i hi hp => by
    rw [cnt_s]
    cases hpi : p i with
    | false => rw [h1 i _ hi hpi, if_neg (by decide)]
    | true =>
      rw [hpi, Bool.true_and] at hp
      have e : ∀ x : Int32, K - x + (-1 : Int32) = K - (x + 1) := fun x => by
        rw [Int32.sub_eq_add_neg, Int32.sub_eq_add_neg, Int32.neg_add, Int32.add_assoc, Int32.sub_eq_add_neg]
      rw [h2 i _ hi hpi, if_neg (fun q => of_decide_eq_false hp ((hsub i).mp q)), if_pos rfl, ← nI_s (cnt p i), e]) (fun i hi hp => by
    rw [Bool.and_eq_true] at hp
    rw [h2 i _ hi hp.1, if_pos ((hsub i).mpr (of_decide_eq_true hp.2))]) (h3 _)
  have e0 : (K - nI (cnt p 0), nI 0) = (K, (0 : Int32)) := by
    show (K - nI 0, nI 0) = _
    rw [nN_0, Int32.sub_zero]
  rw [← e0]
  exact key
theorem kth_fst (p : Nat → Bool) {N : Nat} (hN : N < 2147483648) (K : Int32) : kth p N K = if fstB (fun i => p i && decide (nI (cnt p i) = K)) N < N then nI (fstB (fun i => p i && decide (nI (cnt p i) = K)) N) else -1 := by
  obtain ⟨a, b, c⟩ := fstB_spec (fun i => p i && decide (nI (cnt p i) = K)) N
  generalize fstB (fun i => p i && decide (nI (cnt p i) = K)) N = k at a b c
  by_cases q : k < N
  · rw [if_pos q]
    exact kth_some (c q) N hN q
  · rw [if_neg q]
    exact kth_none N (fun i hi => b i (by omega))
theorem nI_lt0 {k : Nat} {K : Int32} (hK : K < 0) (hk : k < 2147483648) : ¬ nI k = K := fun q => by
  rw [← q] at hK
  exact nI_nn hk hK
theorem fstB_none {p : Nat → Bool} {n : Nat} (h : ∀ i, i < n → p i = false) : ¬ fstB p n < n := by rw [fstB_n h]; exact Nat.lt_irrefl n
theorem m_leastOf38 (hO : pOK P) (hM : mP P g) (hF : mF P g) (hR : mR P N r g) {i : Nat} (hi : i < N) (K : Int32) : wh (wX11_leastOf_38 (nI i) K (sI (ls P (r i))) g) (K, (0 : Int32)) = some (kth (lsB P (r i)) (2 ^ pn P) K, g) := by
  have h5 := hO.1
  have h7 := p2n hO
  have hpos := Nat.two_pow_pos (pn P)
  have hc := (hR.2.2 i hi).2
  have hls := ls_spec hO (r i)
  rw [kth_fst _ (by omega)]
  by_cases h9 : ls P (r i) = 99
  · have hno : ∀ S, S < 2 ^ pn P → cmd P (r i) S = false := by
      rcases hls with q | q
      · exact q.2
      · omega
    rw [if_neg (fstB_none (fun S hS => by unfold lsB; rw [hno S hS, Bool.and_false, Bool.false_and]))]
    refine wh_out ?_
    dsimp only [wX11_leastOf_38]
    rw [hM.1, nI_shl (by omega), if_neg (show ¬ nI (2 ^ pn P) ≤ (0 : Int32) by rw [show (0 : Int32) = nI 0 from rfl, nN_le (by omega) (by omega)]; omega), h9, if_pos (show sI 99 = -1 from rfl)]
    rfl
  · obtain ⟨b1, b2, _⟩ := hls.resolve_left (fun q => h9 q.1)
    have es : sI (ls P (r i)) = nI (ls P (r i)) := if_neg h9
    have hlw : lw P (r i) = wSum P (ls P (r i)) (pn P) := if_neg h9
    by_cases hK : K < 0
    · rw [if_neg (fstB_none (fun S hS => by
        have := cnt_le (lsB P (r i)) S
        rw [decide_eq_false (nI_lt0 hK (by omega)), Bool.and_false]))]
      refine wh_out ?_
      dsimp only [wX11_leastOf_38]
      rw [hM.1, nI_shl (by omega), if_neg (show ¬ nI (2 ^ pn P) ≤ (0 : Int32) by rw [show (0 : Int32) = nI 0 from rfl, nN_le (by omega) (by omega)]; omega), if_neg (show ¬ sI (ls P (r i)) = -1 from fun q => by rw [es, nI_m1, nN_eqm (by omega)] at q; exact q), if_pos hK]
      rfl
    · have hw := fun S => wSum_le hO S (pn P) (Nat.le_refl _)
      have body : ∀ S l, S < 2 ^ pn P → wX11_leastOf_38 (nI i) K (sI (ls P (r i))) g (l, nI S) = if lsB P (r i) S then (if l = 0 then some (.inr (nI S, g)) else some (.inl (l + (-1 : Int32), nI (S + 1)))) else some (.inl (l, nI (S + 1))) := fun S l hS => by
        have hwS := hw S
        have hwl := hw (ls P (r i))
        have hwy := wyN_cmd hO (c := r i) (S := S) hc
        have hwl2 : wyN P (r i) S ≤ 3125 := by
          unfold wyN
          split
          · exact cnt_le _ _
          · omega
        dsimp only [wX11_leastOf_38]
        rw [hM.1, nI_shl (by omega), if_neg (by rw [nN_le (by omega) (by omega)]; omega), if_neg (show ¬ sI (ls P (r i)) = -1 from fun q => by rw [es, nI_m1, nN_eqm (by omega)] at q; exact q), if_neg hK, es, m_weightOf hO hM (by omega), Option.bind_some, m_weightOf hO hM (by omega), Option.bind_some, nI_s]
        unfold lsB
        rw [hlw]
        by_cases c1 : wSum P S (pn P) = wSum P (ls P (r i)) (pn P)
        · rw [if_pos (by rw [c1]), m_waysOf hO hM hF hR hi (by omega), Option.bind_some, c1, beq_self_eq_true, Bool.true_and]
          cases hcm : cmd P (r i) S with
          | false =>
            have e0 : wyN P (r i) S = 0 := by
              by_cases q : wyN P (r i) S = 0
              · exact q
              · rw [hwy.mp (by omega)] at hcm; cases hcm
            rw [if_pos (by rw [e0]; rfl), if_neg (by decide)]
          | true =>
            have e0 := hwy.mpr hcm
            rw [if_neg (fun q => absurd ((nN_eq0 (by omega)).mp q) (by omega)), if_pos rfl]
            rfl
        · rw [if_neg (fun q => c1 ((nN_eq (by omega) (by omega)).mp q)), show (wSum P S (pn P) == wSum P (ls P (r i)) (pn P)) = false by simp [c1], Bool.false_and, if_neg (by decide)]
      rw [wh_kth (step := wX11_leastOf_38 (nI i) K (sI (ls P (r i))) g) (lsB P (r i)) (2 ^ pn P) (by omega) K (fun S => (nI S, g)) (-1, g) (fun S l hS hp => by rw [body S l hS, hp, if_neg (by decide)]) (fun S l hS hp => by rw [body S l hS, hp, if_pos rfl]) (fun l => by
        dsimp only [wX11_leastOf_38]
        rw [hM.1, nI_shl (by omega), if_pos (Int32.le_refl _)]
        rfl)]
      congr 1
      split <;> rfl
theorem m_forced37 (hO : pOK P) (hM : mP P g) (hF : mF P g) (hR : mR P N r g) {i : Nat} (hi : i < N) : wh (wX11_forced_37 (nI i) (sI (ls P (r i))) g) ((0 : Int32), (0 : Int32)) = some (nI (frc P (r i)), g) := by
  have h5 := hO.1
  have h7 := p2n hO
  have hc := (hR.2.2 i hi).2
  have hls := ls_spec hO (r i)
  unfold frc
  by_cases h9 : ls P (r i) = 99
  · rw [if_pos h9]
    refine wh_out ?_
    dsimp only [wX11_forced_37]
    rw [hM.1, h9]
    by_cases c : nI (pn P) ≤ 0
    · rw [if_pos c]; rfl
    · rw [if_neg c, if_pos (show sI 99 = -1 from rfl)]; rfl
  · obtain ⟨b1, b2, _⟩ := hls.resolve_left (fun q => h9 q.1)
    have es : sI (ls P (r i)) = nI (ls P (r i)) := if_neg h9
    rw [if_neg h9, es]
    refine wh_seq (fun f => (nI (bS (fun f => (ls P (r i)).testBit f && pcn (vIn P (r i) (ls P (r i)) f) == 1) f), nI f)) (pn P) (fun f hf => ?_) ?_
    · dsimp only [wX11_forced_37]
      rw [hM.1, if_neg (by rw [nN_le (by omega) (by omega)]; omega), if_neg (show ¬ nI (ls P (r i)) = -1 from fun q => by rw [nI_m1, nN_eqm (by omega)] at q; exact q), m_has (by omega) (by omega), Option.bind_some, nI_s, ← bS_one]
      cases hb : (ls P (r i)).testBit f with
      | false => rw [if_pos (show (if false = true then (1 : Int32) else 0) = 0 by decide), show (0 : Int32) = nI 0 from rfl, nI_or, Bool.false_and, if_neg (by decide)]
      | true =>
        have hv := vIn_lt hO (S := ls P (r i)) hc hf
        have hp := pcn_le (vIn P (r i) (ls P (r i)) f)
        rw [if_neg (show ¬ (if true = true then (1 : Int32) else 0) = 0 by decide), m_valuesBy hO hM hF hR hi (by omega) hf, Option.bind_some, m_bits (by omega), Option.bind_some, Bool.true_and]
        by_cases c : pcn (vIn P (r i) (ls P (r i)) f) = 1
        · rw [if_pos (by rw [c]; rfl), nI_shl (by omega), nI_or, show (pcn (vIn P (r i) (ls P (r i)) f) == 1) = true by simp [c], if_pos rfl]
        · rw [if_neg (fun q : nI (pcn (vIn P (r i) (ls P (r i)) f)) = (1 : Int32) => c ((nN_eq (b := 1) (by omega) (by omega)).mp q)), show (0 : Int32) = nI 0 from rfl, nI_or, show (pcn (vIn P (r i) (ls P (r i)) f) == 1) = false by simp [c], if_neg (by decide)]
    · dsimp only [wX11_forced_37]
      rw [hM.1, if_pos (Int32.le_refl _)]
      rfl
end Sc
