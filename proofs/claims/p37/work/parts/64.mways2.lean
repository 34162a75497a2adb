
/-! ===== the reference counts ways as the class does ===== -/
section Wz
variable {P : zPl} {g : zS} {N : Nat} {r : Nat → Nat}
theorem red_congr {S x : Nat} {a b : Nat → Nat} : ∀ n, (∀ f, f < n → a f = b f) → red P S x a n = red P S x b n := by
  intro n
  induction n with
  | zero => intro _; rfl
  | succ n ih => intro h; rw [red_s, red_s, ih (fun f hf => h f (by omega)), h n (by omega)]
/-- whether a form is a way's -/
def wyQ (P : zPl) (c S : Nat) (a : Nat → Nat) : Bool := alB (fun f => decide (a f < mq P f)) 5 && (fs P a == 0 && alB (fun f => S.testBit f || rv c f == a f + 1) (pn P))
theorem wyB_Q (c S x : Nat) : wyB P c S x = wyQ P c S (vo x) := by
  unfold wyB psF asB wyQ fsM
  have e : alB (fun f => decide (vo x f < mq P f)) 5 = isF5 P x := rfl
  rw [e]
  cases isF5 P x with
  | false => rw [Bool.false_and, Bool.false_and, Bool.false_and]
  | true => rw [if_pos rfl, Bool.true_and, Bool.true_and]
theorem nst_nwb (hO : pOK P) {c S : Nat} (hc : rOK P c) (hm : mSb c S (pn P) = true) : ∀ k, k ≤ pn P → ∀ a : Nat → Nat, (∀ f, f < pn P - k → S.testBit f = false → rv c f = a f + 1) → nst (fun f v => S.testBit f || rv c f == v + 1) (pq P) (fun a => if fs P a == 0 then 1 else 0) k (pn P - k) a = nwb P S k (red P S (lft P c S (pn P)) a (pn P - k)) := by
  have h5 := hO.1
  rw [mSb_iff h5] at hm
  intro k
  induction k with
  | zero =>
    intro _ a ha
    rw [Nat.sub_zero] at ha ⊢
    show (if fs P a == 0 then 1 else 0) = (if red P S (lft P c S (pn P)) a (pn P) == 0 then 1 else 0)
    have e : fs P a = red P S (lft P c S (pn P)) a (pn P) := by
      apply Nat.eq_of_testBit_eq
      intro e
      rw [Bool.eq_iff_iff, fs_bit, red_bit, lft_bit]
      constructor
      · rintro ⟨h1, h2⟩
        exact ⟨⟨h1, fun f hf hS => by rw [ha f hf hS, eoa_s, pT_bit, h2 f hf, decide_eq_true h1]; rfl⟩, fun f hf hS => by rw [pT_bit, h2 f hf, decide_eq_true h1]; rfl⟩
      · rintro ⟨⟨h1, h2⟩, h3⟩
        refine ⟨h1, fun f hf => ?_⟩
        cases hS : S.testBit f with
        | true =>
          have h4 := h3 f hf hS
          rw [pT_bit, Bool.and_eq_true] at h4
          exact h4.2
        | false =>
          have h4 := h2 f hf hS
          rw [ha f hf hS, eoa_s, pT_bit, Bool.and_eq_true] at h4
          exact h4.2
    rw [e]
  | succ k ih =>
    intro hk a ha
    have hf : pn P - k = pn P - (k + 1) + 1 := by omega
    generalize hfe : pn P - (k + 1) = f at *
    have hfn : f < pn P := by omega
    rw [nst_s]
    have hrec : ∀ v, (S.testBit f = false → rv c f = v + 1) → nst (fun f v => S.testBit f || rv c f == v + 1) (pq P) (fun a => if fs P a == 0 then 1 else 0) k (f + 1) (upA a f v) = nwb P S k (red P S (lft P c S (pn P)) (upA a f v) (f + 1)) := fun v hv => by
      have h := ih (by omega) (upA a f v) (fun i hi hS => by
        unfold upA
        by_cases q : i = f
        · rw [if_pos q, q]
          rw [q] at hS
          exact hv hS
        · rw [if_neg q]; exact ha i (by omega) hS)
      rw [hf] at h
      exact h
    have hred : ∀ v, red P S (lft P c S (pn P)) (upA a f v) f = red P S (lft P c S (pn P)) a f := fun v => red_congr f (fun i hi => by unfold upA; rw [if_neg (by omega)])
    show _ = (if S.testBit (pn P - (k + 1)) then sm (fun v => nwb P S k (red P S (lft P c S (pn P)) a f &&& pT P (pn P - (k + 1)) v)) (pq P (pn P - (k + 1))) else nwb P S k (red P S (lft P c S (pn P)) a f))
    rw [hfe]
    cases hS : S.testBit f with
    | true =>
      rw [if_pos rfl]
      refine sm_congr _ (fun v hv => ?_)
      rw [Bool.true_or, if_pos rfl, hrec v (fun q => by rw [hS] at q; cases q), red_s, if_pos hS, hred]
      unfold upA
      rw [if_pos rfl]
    | false =>
      rw [if_neg (by decide)]
      have hr0 : rv c f ≠ 0 := fun q => by rw [hm f hfn q] at hS; cases hS
      have hrq := hc.2.1 f hfn
      rw [sm_one (k := rv c f - 1) _ (by omega) (fun i hi hne => by
        rw [Bool.false_or, if_neg]
        intro q
        have := beq_iff_eq.mp q
        omega)]
      rw [Bool.false_or, if_pos (by rw [beq_iff_eq]; omega), hrec (rv c f - 1) (fun _ => by omega), red_s, if_neg (by rw [hS]; decide), hred]
theorem wy_cnt (hO : pOK P) {c S : Nat} (hc : rOK P c) (hm : mSb c S (pn P) = true) : cnt (wyB P c S) 3125 = nwb P S (pn P) (lft P c S (pn P)) := by
  have h5 := hO.1
  rw [cnt_congr (q := fun x => wyQ P c S (vo x)) 3125 (fun x _ => wyB_Q c S x)]
  have h := nst_all (q := wyQ P c S) (n := pn P) h5 (c := fun f v => S.testBit f || rv c f == v + 1) (m := pq P) (t := fun a => if fs P a == 0 then 1 else 0) (fun f hf => (hO.2.1 f hf).2.1) (fun x hx => by
    unfold wyQ at hx
    rw [Bool.and_eq_true, Bool.and_eq_true, alB_iff, alB_iff] at hx
    refine ⟨fun f hf => ⟨?_, hx.2.2 f hf⟩, fun f hf hf5 => ?_⟩
    · have := of_decide_eq_true (hx.1 f (by omega))
      rw [mq_in hf] at this
      exact this
    · have := of_decide_eq_true (hx.1 f hf5)
      rw [mq_out hf] at this
      omega) (fun x h1 h2 => by
    have e : wyQ P c S (vo x) = (fs P (vo x) == 0) := by
      unfold wyQ
      rw [(alB_iff _ 5).mpr (fun f hf => by
        by_cases q : f < pn P
        · rw [mq_in q]; exact decide_eq_true (h1 f q).1
        · rw [mq_out (by omega), h2 f (by omega) hf]; rfl), (alB_iff _ (pn P)).mpr (fun f hf => (h1 f hf).2), Bool.true_and, Bool.and_true]
    rw [e]) (fun a b hab => by
    show (if fs P a == 0 then 1 else 0) = (if fs P b == 0 then 1 else 0)
    rw [fs_congr P hab])
  rw [h]
  have h2 := nst_nwb (S := S) hO hc hm (pn P) (Nat.le_refl _) (fun _ => 0) (fun f hf => by omega)
  rw [Nat.sub_self] at h2
  exact h2
theorem wyN_nws (hO : pOK P) {c S : Nat} (hc : rOK P c) : wyN P c S = nws P c S := by
  have h5 := hO.1
  unfold wyN nws
  cases hm : mSb c S (pn P) with
  | false =>
    rw [if_neg (by decide)]
    unfold cmd
    rw [hm, Bool.false_and, if_neg (by decide)]
  | true =>
    rw [if_pos rfl]
    have e1 := wy_cnt hO hc hm
    rw [e1]
    cases hc2 : cmd P c S with
    | true => rfl
    | false =>
      rw [if_neg (by decide)]
      have h3 : ¬ 0 < wyN P c S := fun q => by rw [(wyN_cmd hO hc).mp q] at hc2; cases hc2
      unfold wyN at h3
      rw [hm, if_pos rfl, e1] at h3
      omega
theorem rOK_0 (hO : pOK P) : rOK P 0 := ⟨by omega, fun f _ => by rw [show rv 0 f = 0 by unfold rv; rw [Nat.zero_shiftRight, Nat.zero_and]]; exact Nat.zero_le _, fun f _ _ => by unfold rv; rw [Nat.zero_shiftRight, Nat.zero_and]⟩
/-- how many forms pass -/
def pss (P : zPl) : Nat := nwb P (2 ^ pn P - 1) (pn P) (2 ^ pm P - 1)
theorem lft_all (hO : pOK P) (c : Nat) : lft P c (2 ^ pn P - 1) (pn P) = 2 ^ pm P - 1 := by
  apply Nat.eq_of_testBit_eq
  intro e
  rw [Bool.eq_iff_iff, lft_bit, m1_bit, decide_eq_true_eq]
  exact ⟨fun h => h.1, fun h => ⟨h, fun f hf hS => by rw [m1_bit, decide_eq_true hf] at hS; cases hS⟩⟩
theorem mSb_all (hO : pOK P) (c : Nat) : mSb c (2 ^ pn P - 1) (pn P) = true := by
  rw [mSb_iff hO.1]
  intro f hf _
  rw [m1_bit, decide_eq_true hf]
theorem asB_all (c x : Nat) : asB P c (2 ^ pn P - 1) x = true := by
  unfold asB
  rw [alB_iff]
  intro f hf
  rw [m1_bit, decide_eq_true hf, Bool.true_or]
theorem pss_cnt (hO : pOK P) : cnt (psF P) 3125 = pss P := by
  have h := wy_cnt (S := 2 ^ pn P - 1) hO (rOK_0 hO) (mSb_all hO 0)
  rw [lft_all hO] at h
  unfold pss
  rw [← h]
  exact cnt_congr 3125 (fun x _ => by unfold wyB; rw [asB_all, Bool.and_true])
end Wz
