
section Mv
variable {P : zPl} {g : zS} {N : Nat} {r : Nat → Nat}
/-- setting a place of the reference's own numbers that no relation speaks of -/
theorem mP_zi {k : Nat} (hk : k ≠ 16 ∧ k ≠ 17 ∧ k ≠ 19) (v : Int32) (h : mP P g) : mP P (zi g 42 k v) := by
  unfold mP at h ⊢
  rw [zi_else (c := 42) (k := k) (i := 16) g v (fun e => hk.1 e.2.symm), zi_else (c := 42) (k := k) (i := 17) g v (fun e => hk.2.1 e.2.symm), zi_else (c := 42) (k := k) (i := 19) g v (fun e => hk.2.2 e.2.symm), zi_cell g v (show 51 ≠ 42 by decide), zi_cell g v (show 52 ≠ 42 by decide), zi_cell g v (show 53 ≠ 42 by decide), zi_cell g v (show 54 ≠ 42 by decide), zi_cell g v (show 58 ≠ 42 by decide)]
  exact h
theorem mF_zi {k : Nat} (v : Int32) (h : mF P g) : mF P (zi g 42 k v) := by
  unfold mF at h ⊢
  rw [zi_cell g v (show 57 ≠ 42 by decide), zi_cell g v (show 56 ≠ 42 by decide)]
  exact h
theorem mR_zi {k : Nat} (hk : k ≠ 18) (v : Int32) (h : mR P N r g) : mR P N r (zi g 42 k v) := by
  unfold mR at h ⊢
  rw [zi_else (c := 42) (k := k) (i := 18) g v (fun e => hk e.2.symm), zi_cell g v (show 55 ≠ 42 by decide)]
  exact h
theorem zi_zi (g : zS) (c k : Nat) (a b : Int32) : zi (zi g c k a) c k b = zi g c k b := by
  unfold zi
  refine Prod.ext (funext fun i => funext fun j => ?_) rfl
  dsimp only
  split <;> rfl
/-- how many sets below n mend and weigh as a set does -/
def lmN (P : zPl) (c b n : Nat) : Nat := if b = 99 then 0 else cnt (fun T => wSum P T (pn P) == wSum P b (pn P) && cmd P c T) n
theorem m_lightest (hO : pOK P) (hM : mP P g) (hF : mF P g) (hR : mR P N r g) {i : Nat} (hi : i < N) : nX11_lightest (nI i) g = some (sI (ls P (r i)), zi g 42 36 (nI (lmN P (r i) (ls P (r i)) (2 ^ pn P)))) := by
  have h5 := hO.1
  have h7 := p2n hO
  have hc := (hR.2.2 i hi).2
  have hw := fun S => wSum_le hO S (pn P) (Nat.le_refl _)
  unfold nX11_lightest ls
  refine wh_seq (fun S => (sI (lsN P (r i) S), nI S, zi g 42 36 (nI (lmN P (r i) (lsN P (r i) S) S)))) (2 ^ pn P) (fun S hS => ?_) ?_
  · have hsp := lsN_spec P (r i) S (by omega)
    rw [lsN_s]
    generalize lsN P (r i) S = b at *
    have hM2 : mP P (zi g 42 36 (nI (lmN P (r i) b S))) := mP_zi (by decide) _ hM
    have hF2 : mF P (zi g 42 36 (nI (lmN P (r i) b S))) := mF_zi _ hF
    have hR2 : mR P N r (zi g 42 36 (nI (lmN P (r i) b S))) := mR_zi (by decide) _ hR
    have v36 : (zi g 42 36 (nI (lmN P (r i) b S))).1 42 36 = nI (lmN P (r i) b S) := zi_at _ _ _ _
    have zz : ∀ v, zi (zi g 42 36 (nI (lmN P (r i) b S))) 42 36 v = zi g 42 36 v := fun v => zi_zi _ _ _ _ _
    dsimp only [wX11_lightest_9]
    rw [hM2.1, nI_shl (by omega), if_neg (by rw [nN_le (by omega) (by omega)]; omega)]
    have hwy := wyN_cmd hO (c := r i) (S := S) hc
    have hwl : wyN P (r i) S ≤ 3125 := by
      unfold wyN
      split
      · exact cnt_le _ _
      · omega
    have h39 : ∀ s0 : Int32, jX11_lightest_39 (nI i) (sI b) (nI S) s0 (zi g 42 36 (nI (lmN P (r i) b S))) = if 0 < s0 then some (.inl (sI b, nI (S + 1), zi g 42 36 (nI (lmN P (r i) b S)))) else if cmd P (r i) S then (if 0 ≤ s0 then jX11_lightest_74 (nI i) (sI b) (nI S) s0 (nI (lmN P (r i) b S + 1)) (zi g 42 36 (nI (lmN P (r i) b S))) else jX11_lightest_74 (nI i) (sI b) (nI S) s0 1 (zi g 42 36 (nI (lmN P (r i) b S)))) else some (.inl (sI b, nI (S + 1), zi g 42 36 (nI (lmN P (r i) b S)))) := fun s0 => by
      unfold jX11_lightest_39
      rw [m_waysOf hO hM2 hF2 hR2 hi (by omega), Option.bind_some, nI_s, v36, nI_s]
      by_cases c0 : 0 < s0
      · rw [if_pos c0, if_pos c0]
      · rw [if_neg c0, if_neg c0]
        cases hcm : cmd P (r i) S with
        | false =>
          have e0 : wyN P (r i) S = 0 := by
            by_cases q : wyN P (r i) S = 0
            · exact q
            · rw [hwy.mp (by omega)] at hcm; cases hcm
          rw [if_pos (by rw [e0]; rfl), if_neg (by decide)]
        | true =>
          have e0 := hwy.mpr hcm
          rw [if_neg (fun q => absurd ((nN_eq0 (by omega)).mp q) (by omega)), if_pos rfl]
    by_cases h9 : b = 99
    · have hsp' : ∀ T, T < S → cmd P (r i) T = false := by
        rcases hsp with q | q
        · exact q.2
        · omega
      rw [if_pos (show sI b = -1 by rw [h9]; rfl), h39, if_neg (by decide)]
      cases hcm : cmd P (r i) S with
      | false =>
        rw [if_neg (by decide), Bool.false_and, if_neg (by decide), h9]
        rfl
      | true =>
        rw [if_pos rfl, if_neg (by decide), Bool.true_and, show (b == 99) = true by simp [h9], Bool.true_or, if_pos rfl]
        unfold jX11_lightest_74
        rw [if_pos (by decide), nI_s, zz]
        have eS : sI S = nI S := if_neg (by omega)
        have eL : lmN P (r i) S (S + 1) = 1 := by
          unfold lmN
          rw [if_neg (by omega), cnt_s, hcm, beq_self_eq_true, Bool.true_and, if_pos rfl, cnt_congr (q := fun _ => false) S (fun T hT => by rw [hsp' T hT, Bool.and_false])]
          have : ∀ n, cnt (fun _ => false) n = 0 := fun n => by
            induction n with
            | zero => rfl
            | succ n ih => rw [cnt_s, if_neg (by decide)]; exact ih
          rw [this]
        rw [eS, eL]
        rfl
    · obtain ⟨b1, b2, b3⟩ : b < S ∧ cmd P (r i) b = true ∧ ∀ T, T < S → cmd P (r i) T = true → kO P b ≤ kO P T := by
        rcases hsp with q | q
        · exact absurd q.1 h9
        · exact q
      have eb : sI b = nI b := if_neg h9
      have wb := hw b
      have wS := hw S
      have pb := pcn_le b
      have pS := pcn_le S
      rw [if_neg (show ¬ sI b = -1 from fun q => by rw [eb, nI_m1, nN_eqm (by omega)] at q; exact q), m_weightOf hO hM2 (by omega), Option.bind_some, eb, m_weightOf hO hM2 (by omega), Option.bind_some, ← eb, h39]
      have hdt : ∀ a, a < 46 → ∀ b, b < 46 → ((0 < nI a - nI b) ↔ b < a) ∧ ((0 ≤ nI a - nI b) ↔ b ≤ a) ∧ ((nI a - nI b < 0) ↔ a < b) := by decide +kernel
      obtain ⟨t1, t2, t3⟩ := hdt (wSum P S (pn P)) (by omega) (wSum P b (pn P)) (by omega)
      have n9 : (b == 99) = false := by simp [h9]
      have n9S : ¬ S = 99 := by omega
      have eS : sI S = nI S := if_neg n9S
      rw [n9, Bool.false_or]
      cases hcm : cmd P (r i) S with
      | false =>
        have eL : lmN P (r i) b (S + 1) = lmN P (r i) b S := by
          unfold lmN
          rw [if_neg h9, if_neg h9, cnt_s, hcm, Bool.and_false, if_neg (by decide)]
        rw [Bool.false_and, if_neg (show ¬ false = true by decide), if_neg (show ¬ false = true by decide), eL]
        split <;> rfl
      | true =>
        rw [Bool.true_and, if_pos (show true = true from rfl)]
        by_cases c1 : wSum P b (pn P) < wSum P S (pn P)
        · have hk : ¬ kO P S < kO P b := by unfold kO; omega
          have eL : lmN P (r i) b (S + 1) = lmN P (r i) b S := by
            unfold lmN
            rw [if_neg h9, if_neg h9, cnt_s, show (wSum P S (pn P) == wSum P b (pn P)) = false by simp; omega, Bool.false_and, if_neg (by decide)]
          rw [if_pos (t1.mpr c1), decide_eq_false hk, if_neg (show ¬ false = true by decide), eL]
        · rw [if_neg (fun q => c1 (t1.mp q))]
          by_cases c2 : wSum P S (pn P) < wSum P b (pn P)
          · have hk : kO P S < kO P b := by unfold kO; omega
            have eL : lmN P (r i) S (S + 1) = 1 := by
              unfold lmN
              rw [if_neg n9S, cnt_s, hcm, beq_self_eq_true, Bool.true_and, if_pos rfl, cnt_congr (q := fun _ => false) S (fun T hT => by
                cases hT2 : cmd P (r i) T with
                | false => rw [Bool.and_false]
                | true =>
                  have h3 := b3 T hT hT2
                  have pT := pcn_le T
                  rw [Bool.and_true]
                  unfold kO at h3
                  simp
                  omega)]
              have : ∀ n, cnt (fun _ => false) n = 0 := fun n => by
                induction n with
                | zero => rfl
                | succ n ih => rw [cnt_s, if_neg (by decide)]; exact ih
              rw [this]
            unfold jX11_lightest_74
            rw [if_neg (fun q => absurd (t2.mp q) (by omega)), if_pos (t3.mpr c2), decide_eq_true hk, if_pos (show true = true from rfl), nI_s, zz, eS, eL]
            rfl
          · have we : wSum P S (pn P) = wSum P b (pn P) := by omega
            have eL : ∀ d, wSum P d (pn P) = wSum P b (pn P) → d ≠ 99 → lmN P (r i) d (S + 1) = lmN P (r i) b S + 1 := fun d hd hd9 => by
              unfold lmN
              rw [if_neg hd9, if_neg h9, hd, cnt_s, hcm, we, beq_self_eq_true, Bool.true_and, if_pos rfl]
            unfold jX11_lightest_74
            rw [if_pos (t2.mpr (by omega)), if_neg (fun q => c2 (t3.mp q)), m_bits (by omega), Option.bind_some, eb, m_bits (by omega), Option.bind_some, nI_s, zz]
            by_cases c3 : pcn b ≤ pcn S
            · have hk : ¬ kO P S < kO P b := by unfold kO; omega
              rw [if_pos ((nN_le (by omega) (by omega)).mpr c3), decide_eq_false hk, if_neg (show ¬ false = true by decide), eL b rfl h9, eb]
            · have hk : kO P S < kO P b := by unfold kO; omega
              rw [if_neg (fun q => c3 ((nN_le (by omega) (by omega)).mp q)), decide_eq_true hk, if_pos (show true = true from rfl), eL S we n9S, eS]
  · dsimp only [wX11_lightest_9]
    rw [(mP_zi (P := P) (g := g) (k := 36) (by decide) _ hM).1, nI_shl (by omega), if_pos (Int32.le_refl _)]
    rfl
end Mv
