
/-! ===== read: tokens only go on; the plan with one more field ===== -/
section Ge
variable {g h k : zS} {tn : Nat} {tb : Nat → Nat} {s p t : Nat} {P : zPl} {N : Nat} {r : Nat → Nat}
/-- the next token -/
def nx (tn : Nat) (tb : Nat → Nat) (s : Nat) : Nat := sk tn tb (te tn tb s)
theorem nx_ge (h : s ≤ tn) : s ≤ nx tn tb s ∧ nx tn tb s ≤ tn ∧ (s < tn → s < nx tn tb s) := by
  have a := te_le (tb := tb) h
  have b := sk_le (tb := tb) a.2.1
  unfold nx
  exact ⟨by omega, b.2, fun q => by have := a.2.2 q; omega⟩
theorem rowR_ge : ∀ k f t c {t' c' : Nat}, t ≤ tn → rowR P tn tb k f t c = .inl (t', c') → t ≤ t' ∧ t' ≤ tn
  | 0, f, t, c, t', c', ht, e => by
    have := congrArg Prod.fst (Sum.inl.inj e)
    dsimp only at this
    omega
  | k + 1, f, t, c, t', c', ht, e => by
    have n := nx_ge (tb := tb) ht
    unfold rowR at e
    by_cases q : chr tn tb t = 63
    · rw [if_pos q] at e
      have := rowR_ge k (f + 1) (nx tn tb t) c n.2.1 e
      omega
    · rw [if_neg q] at e
      by_cases d : dgO tn tb t 0 (pq P f - 1)
      · rw [if_pos d] at e
        have := rowR_ge k (f + 1) (nx tn tb t) _ n.2.1 e
        omega
      · rw [if_neg d] at e; cases e
theorem rowR_ok (hO : pOK P) : ∀ k f t c {t' c' : Nat}, f + k = pn P → rOKf P f c → rowR P tn tb k f t c = .inl (t', c') → rOK P c'
  | 0, f, t, c, t', c', hf, hc, e => by
    have := congrArg Prod.snd (Sum.inl.inj e)
    dsimp only at this
    have ef : f = pn P := by omega
    subst this ef
    exact hc
  | k + 1, f, t, c, t', c', hf, hc, e => by
    have hff : f < pn P := by omega
    unfold rowR at e
    by_cases q : chr tn tb t = 63
    · rw [if_pos q] at e
      exact rowR_ok hO k (f + 1) _ c (by omega) (rOKf_n hO hff hc) e
    · rw [if_neg q] at e
      by_cases d : dgO tn tb t 0 (pq P f - 1)
      · rw [if_pos d] at e
        have := hO.2.1 f hff
        exact rowR_ok hO k (f + 1) _ _ (by omega) (rOKf_s hO hff hc (by have := d.2.2.2; omega)) e
      · rw [if_neg d] at e; cases e
theorem spR_ge {hi : Nat} : ∀ k t m {t' m' : Nat}, t ≤ tn → spR tn tb hi k t m = .inl (t', m') → t ≤ t' ∧ t' ≤ tn
  | 0, t, m, t', m', ht, e => by cases e
  | k + 1, t, m, t', m', ht, e => by
    have n1 := nx_ge (tb := tb) ht
    have n2 := nx_ge (tb := tb) n1.2.1
    have n3 := nx_ge (tb := tb) n2.2.1
    have cont : ∀ {v u t m}, t ≤ tn → spA tn tb (spR tn tb hi k) v u t m = .inl (t', m') → t ≤ t' ∧ t' ≤ tn := fun {v u t m} h e => by
      have n := nx_ge (tb := tb) h
      unfold spA at e
      by_cases q : chr tn tb t = 44
      · rw [if_pos q] at e
        have := spR_ge k (nx tn tb t) _ n.2.1 e
        omega
      · rw [if_neg q] at e
        have := congrArg Prod.fst (Sum.inl.inj e)
        dsimp only at this
        omega
    unfold spR at e
    by_cases d : dgO tn tb t 0 hi
    · rw [if_pos d] at e
      by_cases q : chr tn tb (sk tn tb (te tn tb t)) = 45
      · rw [if_pos q] at e
        by_cases d2 : dgO tn tb (sk tn tb (te tn tb (sk tn tb (te tn tb t)))) (tb t - 48) hi
        · rw [if_pos d2] at e
          have := cont (t := nx tn tb (nx tn tb (nx tn tb t))) n3.2.1 e
          omega
        · rw [if_neg d2] at e; cases e
      · rw [if_neg q] at e
        have := cont (t := nx tn tb t) n1.2.1 e
        omega
    · rw [if_neg d] at e; cases e
theorem edR_ge : ∀ k t sn V {t' : Nat} {V' : Nat → Nat}, t ≤ tn → edR P tn tb k t sn V = .inl (t', V') → t ≤ t' ∧ t' ≤ tn
  | 0, t, sn, V, t', V', ht, e => by cases e
  | k + 1, t, sn, V, t', V', ht, e => by
    have n1 := nx_ge (tb := tb) ht
    have n2 := nx_ge (tb := tb) n1.2.1
    unfold edR at e
    by_cases q : told tn tb P t < pn P ∧ sn.testBit (told tn tb P t) = false
    · rw [if_pos q] at e
      by_cases q2 : wd tn tb (sk tn tb (te tn tb t)) = wdL 7
      · rw [if_pos q2] at e
        cases hsp : spR tn tb (pq P (told tn tb P t) - 1) (tn + 1) (sk tn tb (te tn tb (sk tn tb (te tn tb t)))) 0 with
        | inr x => rw [hsp] at e; cases e
        | inl x =>
          obtain ⟨u, m⟩ := x
          rw [hsp] at e
          dsimp only at e
          have g1 := spR_ge (tn + 1) (nx tn tb (nx tn tb t)) 0 n2.2.1 hsp
          by_cases q3 : wd tn tb u = wdL 6
          · rw [if_pos q3] at e
            have n3 := nx_ge (tb := tb) g1.2
            have := edR_ge k (nx tn tb u) _ _ n3.2.1 e
            omega
          · rw [if_neg q3] at e
            have := congrArg Prod.fst (Sum.inl.inj e)
            dsimp only at this
            omega
      · rw [if_neg q2] at e; cases e
    · rw [if_neg q] at e; cases e
theorem fdV_ge {sc q w sc' t' : Nat} (ht : t ≤ tn) (e : fdV tn tb t sc = .inl (t', q, w, sc')) : t ≤ t' ∧ t' ≤ tn := by
  have n1 := nx_ge (tb := tb) ht
  have n2 := nx_ge (tb := tb) n1.2.1
  have n3 := nx_ge (tb := tb) n2.2.1
  unfold fdV at e
  by_cases d : dgO tn tb t 2 5
  · rw [if_pos d] at e
    unfold fdW at e
    by_cases q1 : wd tn tb (sk tn tb (te tn tb t)) = wdL 3
    · rw [if_pos q1] at e
      by_cases d2 : dgO tn tb (sk tn tb (te tn tb (sk tn tb (te tn tb t)))) 1 9
      · rw [if_pos d2] at e
        have := congrArg Prod.fst (Sum.inl.inj e)
        dsimp only at this
        have : t' = nx tn tb (nx tn tb (nx tn tb t)) := this.symm
        omega
      · rw [if_neg d2] at e; cases e
    · rw [if_neg q1] at e
      have := congrArg Prod.fst (Sum.inl.inj e)
      dsimp only at this
      have : t' = nx tn tb t := this.symm
      omega
  · rw [if_neg d] at e; cases e
theorem fdR_ge {q w sc t' : Nat} (ht : t ≤ tn) (e : fdR P tn tb t = .inl (t', q, w, sc)) : t ≤ t' ∧ t' ≤ tn ∧ isNm tn tb t = true ∧ ¬ told tn tb P t < pn P := by
  have n1 := nx_ge (tb := tb) ht
  have n2 := nx_ge (tb := tb) n1.2.1
  unfold fdR at e
  by_cases d : isNm tn tb t = true ∧ ¬ told tn tb P t < pn P
  · rw [if_pos d] at e
    by_cases q1 : wd tn tb (sk tn tb (te tn tb t)) = wdL 1
    · rw [if_pos q1] at e
      have := fdV_ge (t := nx tn tb (nx tn tb t)) n2.2.1 e
      exact ⟨by omega, this.2, d⟩
    · rw [if_neg q1] at e
      by_cases q2 : wd tn tb (sk tn tb (te tn tb t)) = wdL 2
      · rw [if_pos q2] at e
        have := fdV_ge (t := nx tn tb (nx tn tb t)) n2.2.1 e
        exact ⟨by omega, this.2, d⟩
      · rw [if_neg q2] at e; cases e
  · rw [if_neg d] at e; cases e
theorem wF_ok (hO : pOK P) (hp : pn P < 5) (hm0 : pm P = 0) (hpg : pg P = 9) {q w sc : Nat} {l : List Nat} (hs : sc ≤ 1) (hq : 2 ≤ q) (hq2 : q ≤ 5) (hw : 1 ≤ w) (hw2 : w ≤ 9) (hl : l.length ≤ 6) (hl2 : ∀ c ∈ l, 97 ≤ c ∧ c ≤ 122) : pOK (wF P q w sc l) := by
  refine ⟨hp, fun f hf => ?_, fun f hf => ?_, (by show pm P ≤ 6; omega), fun e he => (by have he' : e < pm P := he; omega), Or.inr hpg, fun e => (by have e' : pn P + 1 = 0 := e; omega)⟩
  · have hf' : f < pn P + 1 := hf
    show 2 ≤ (if f = pn P then q else pq P f) ∧ (if f = pn P then q else pq P f) ≤ 5 ∧ 1 ≤ (if f = pn P then w else pw P f) ∧ (if f = pn P then w else pw P f) ≤ 9 ∧ (if f = pn P then sc else ps P f) ≤ 1
    by_cases c : f = pn P
    · rw [if_pos c, if_pos c, if_pos c]; exact ⟨hq, hq2, hw, hw2, hs⟩
    · rw [if_neg c, if_neg c, if_neg c]; exact hO.2.1 f (by omega)
  · have hf' : f < pn P + 1 := hf
    show (if f = pn P then l else pl P f).length ≤ 6 ∧ ∀ c ∈ (if f = pn P then l else pl P f), 97 ≤ c ∧ c ≤ 122
    by_cases c : f = pn P
    · rw [if_pos c]; exact ⟨hl, hl2⟩
    · rw [if_neg c]; exact hO.2.2.1 f (by omega)
theorem wF_nm (hn : nmOK P) {q w sc : Nat} {l : List Nat} (h0 : 0 < l.length) (h9 : ∀ k, k < 9 → l ≠ wdL k) : nmOK (wF P q w sc l) := fun f hf => by
  have hf' : f < pn P + 1 := hf
  show 0 < (if f = pn P then l else pl P f).length ∧ ∀ k, k < 9 → (if f = pn P then l else pl P f) ≠ wdL k
  by_cases c : f = pn P
  · rw [if_pos c]; exact ⟨h0, h9⟩
  · rw [if_neg c]; exact hn f (by omega)
end Ge
