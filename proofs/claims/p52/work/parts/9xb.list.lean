
/-! ===== a text as the list of its bytes: tokens ===== -/
section Lb
variable {L B C Z : List Nat} {s p x y t : Nat}
def lb (L : List Nat) (k : Nat) : Nat := L.getD k 0
/-- at s the text goes on with B -/
def sfx (L : List Nat) (s : Nat) (B : List Nat) : Prop := s ≤ L.length ∧ L.drop s = B
theorem sfx_len (h : sfx L s B) : L.length = s + B.length := by
  have h1 := congrArg List.length h.2
  rw [List.length_drop] at h1
  have := h.1
  omega
theorem sfx_app {w : List Nat} (h : sfx L s (w ++ B)) : sfx L (s + w.length) B := by
  have hl := sfx_len h
  rw [List.length_append] at hl
  refine ⟨by omega, ?_⟩
  have h1 := congrArg (List.drop w.length) h.2
  rw [List.drop_drop] at h1
  rw [h1]
  simp
theorem sfx_get {w : List Nat} (h : sfx L s (w ++ B)) {i : Nat} (hi : i < w.length) : lb L (s + i) = w.getD i 0 := by
  have h1 := congrArg (fun l : List Nat => l[i]?) h.2
  rw [List.getElem?_drop, List.getElem?_append_left hi] at h1
  unfold lb
  rw [List.getD_eq_getElem?_getD, List.getD_eq_getElem?_getD, h1]
theorem sfx_at (h : sfx L s (x :: B)) : s < L.length ∧ lb L s = x ∧ sfx L (s + 1) B := by
  have hl := sfx_len h
  rw [List.length_cons] at hl
  exact ⟨by omega, sfx_get (w := [x]) (B := B) h (i := 0) Nat.one_pos, sfx_app (w := [x]) h⟩
theorem sfx_chr (h : sfx L s (x :: B)) : chr L.length (lb L) s = nI x := by
  obtain ⟨h1, h2, _⟩ := sfx_at h
  rw [chr_in h1, h2]
theorem sfx_0 (L : List Nat) : sfx L 0 L := ⟨Nat.zero_le _, rfl⟩
theorem sfx_T (T B : List Nat) : sfx (T ++ B) T.length B := ⟨by rw [List.length_append]; omega, by simp⟩
theorem rn_ps {c : Nat → Bool} {w : List Nat} (h : sfx L s (w ++ B)) (hw : ∀ z, z ∈ w → c z = true) (hB : ∀ z D, B = z :: D → c z = false) : rn L.length (lb L) c s = w.length := by
  have hl := sfx_len h
  rw [List.length_append] at hl
  have h2 := sfx_app h
  have hle := rn_le (tn := L.length) (tb := lb L) c s
  rcases Nat.lt_trichotomy (rn L.length (lb L) c s) w.length with q | q | q
  · have e := rn_end (tn := L.length) (tb := lb L) (c := c) (p := s) (by omega)
    rw [sfx_get h q] at e
    have hm : w.getD (rn L.length (lb L) c s) 0 ∈ w := by
      rw [List.getD_eq_getElem?_getD, List.getElem?_eq_getElem q]
      exact List.getElem_mem q
    rw [hw _ hm] at e
    cases e
  · exact q
  · have e := rn_in (tn := L.length) (tb := lb L) (c := c) (p := s) q
    cases B with
    | nil => rw [List.length_nil] at hl; omega
    | cons z D =>
      rw [(sfx_at h2).2.1, hB z D rfl] at e
      cases e
theorem sk_bl (h : sfx L p (32 :: x :: B)) (hx : isBl x = false) : sk L.length (lb L) p = p + 1 ∧ sfx L (p + 1) (x :: B) := by
  refine ⟨?_, (sfx_at h).2.2⟩
  unfold sk
  rw [rn_ps (w := [32]) (B := x :: B) h (fun z hz => by rw [List.mem_singleton.mp hz]; rfl) (fun z D e => by rw [← (List.cons.inj e).1]; exact hx)]
  rfl
theorem sk_no (h : sfx L p (x :: B)) (hx : isBl x = false) : sk L.length (lb L) p = p := by
  unfold sk
  rw [rn_ps (w := []) (B := x :: B) h (fun z hz => absurd hz (List.not_mem_nil)) (fun z D e => by rw [← (List.cons.inj e).1]; exact hx)]
  rfl
theorem sk_end (h : sfx L p []) : sk L.length (lb L) p = p := by
  unfold sk
  rw [rn_ps (w := []) (B := []) h (fun z hz => absurd hz (List.not_mem_nil)) (fun z D e => by cases e)]
  rfl
/-- what stands between two tokens -/
def gap (Z C : List Nat) : Prop := (∃ y D, Z = 32 :: y :: D ∧ C = y :: D ∧ isBl y = false) ∨ (∃ y D, Z = y :: D ∧ C = Z ∧ isBl y = false ∧ isDg y = false ∧ isLt y = false)
theorem gap_b {y : Nat} {D : List Nat} (h : isBl y = false) : gap (32 :: y :: D) (y :: D) := Or.inl ⟨y, D, rfl, rfl, h⟩
theorem gap_s {y : Nat} {D : List Nat} (h : (isBl y || isDg y || isLt y) = false) : gap (y :: D) (y :: D) := by
  rw [Bool.or_eq_false_iff, Bool.or_eq_false_iff] at h
  exact Or.inr ⟨y, D, rfl, rfl, h.1.1, h.1.2, h.2⟩
theorem gap_hd (h : gap Z C) : ∃ y D, Z = y :: D ∧ isDg y = false ∧ isLt y = false := by
  rcases h with ⟨y, D, e, _, _⟩ | ⟨y, D, e, _, _, a, b⟩
  · exact ⟨32, y :: D, e, rfl, rfl⟩
  · exact ⟨y, D, e, a, b⟩
theorem gap_sk (h : gap Z C) (hp : sfx L p Z) : sfx L (sk L.length (lb L) p) C := by
  rcases h with ⟨y, D, rfl, rfl, a⟩ | ⟨y, D, rfl, rfl, a, _, _⟩
  · obtain ⟨e1, e2⟩ := sk_bl hp a
    rw [e1]
    exact e2
  · rw [sk_no hp a]
    exact hp
/-- a word and what is behind it -/
theorem T_w {w : List Nat} (h : sfx L s (w ++ Z)) (h0 : 0 < w.length) (hw : ∀ z, z ∈ w → isLt z = true) (hg : gap Z C) : wd L.length (lb L) s = w ∧ sfx L (sk L.length (lb L) (te L.length (lb L) s)) C ∧ s < L.length := by
  obtain ⟨y, D, eZ, _, y2⟩ := gap_hd hg
  have hl := sfx_len h
  rw [List.length_append] at hl
  have hr := rn_ps (c := isLt) h hw (fun z E e => by rw [eZ] at e; rw [← (List.cons.inj e).1]; exact y2)
  have hs : s < L.length := by omega
  have h1 := (rn_pos (tn := L.length) (tb := lb L) (c := isLt) (p := s) hs).mp (by omega)
  have ht : te L.length (lb L) s = s + w.length := by
    unfold te
    rw [if_pos hs, if_pos h1, hr]
  refine ⟨wd_eq.mpr ⟨hr, fun i hi => sfx_get h hi⟩, ?_, hs⟩
  rw [ht]
  exact gap_sk hg (sfx_app h)
/-- a digit and what is behind it -/
theorem T_d {d : Nat} (h : sfx L s (d :: Z)) (hd : isDg d = true) (hg : gap Z C) : lb L s = d ∧ sfx L (sk L.length (lb L) (te L.length (lb L) s)) C ∧ s < L.length ∧ ∀ lo hi, 48 + lo ≤ d → d ≤ 48 + hi → dgO L.length (lb L) s lo hi := by
  obtain ⟨y, D, eZ, y1, _⟩ := gap_hd hg
  obtain ⟨hs, hx, h2⟩ := sfx_at h
  have hr := rn_ps (c := isDg) (w := [d]) (B := Z) h (fun z hz => by rw [List.mem_singleton.mp hz]; exact hd) (fun z E e => by rw [eZ] at e; rw [← (List.cons.inj e).1]; exact y1)
  have ht : te L.length (lb L) s = s + 1 := by
    unfold te
    rw [if_pos hs, hx, if_neg (by rw [isLt_dg hd]; exact Bool.false_ne_true), if_pos hd, hr]
    rfl
  refine ⟨hx, by rw [ht]; exact gap_sk hg h2, hs, fun lo hi a b => ?_⟩
  unfold dgO
  rw [ht, hx]
  exact ⟨by omega, hs, a, b⟩
/-- a sign and what is behind it -/
theorem T_o {d : Nat} (h : sfx L s (d :: Z)) (h1 : isLt d = false) (h2 : isDg d = false) (hZ : ∃ y D, Z = y :: D ∧ isBl y = false) : sfx L (sk L.length (lb L) (te L.length (lb L) s)) Z := by
  obtain ⟨y, D, rfl, hy⟩ := hZ
  obtain ⟨hs, hx, h3⟩ := sfx_at h
  have ht : te L.length (lb L) s = s + 1 := by
    unfold te
    rw [if_pos hs, hx, if_neg (by rw [h1]; exact Bool.false_ne_true), if_neg (by rw [h2]; exact Bool.false_ne_true)]
  rw [ht, sk_no h3 hy]
  exact h3
theorem wdL_mem {k : Nat} (hk : k < 9) : ∀ z, z ∈ wdL k → isLt z = true := by
  have : ∀ k, k < 9 → ∀ z, z ∈ wdL k → isLt z = true := by decide
  exact this k hk
theorem wdL_pos {k : Nat} (hk : k < 9) : 0 < (wdL k).length := by
  have : ∀ k, k < 9 → 0 < (wdL k).length := by decide
  exact this k hk
theorem wdL_ne1 {k : Nat} (hk : k < 9) : (wdL k).length ≠ 1 := by
  have : ∀ k, k < 9 → (wdL k).length ≠ 1 := by decide
  exact this k hk
/-- a word of the nine -/
theorem T_k {k : Nat} (hk : k < 9) (h : sfx L s (wdL k ++ Z)) (hg : gap Z C) : wd L.length (lb L) s = wdL k ∧ sfx L (sk L.length (lb L) (te L.length (lb L) s)) C ∧ s < L.length := T_w h (wdL_pos hk) (wdL_mem hk) hg
/-- a name of one letter -/
theorem T_n {c : Nat} (hc : isLt c = true) (h : sfx L s (c :: Z)) (hg : gap Z C) : wd L.length (lb L) s = [c] ∧ sfx L (sk L.length (lb L) (te L.length (lb L) s)) C ∧ isNm L.length (lb L) s = true := by
  obtain ⟨a, b, _⟩ := T_w (w := [c]) h Nat.one_pos (fun z hz => by rw [List.mem_singleton.mp hz]; exact hc) hg
  refine ⟨a, b, isNm_iff.mpr ⟨?_, fun k hk e => ?_⟩⟩
  · have := wd_len (tn := L.length) (tb := lb L) s
    rw [a] at this
    have h1 : rn L.length (lb L) isLt s = 1 := this.symm
    omega
  · rw [a] at e
    exact wdL_ne1 hk (congrArg List.length e).symm
theorem told_at {P : zPl} {c f : Nat} (hf : f < pn P) (h1 : pl P f = [c]) (h2 : ∀ e, e < f → pl P e ≠ [c]) (hw : wd L.length (lb L) s = [c]) : told L.length (lb L) P s = f := by
  unfold told
  rw [hw]
  exact fstB_eq hf (decide_eq_true h1) (fun i hi => decide_eq_false (h2 i hi))
theorem told_no {P : zPl} {c : Nat} (h2 : ∀ e, e < pn P → pl P e ≠ [c]) (hw : wd L.length (lb L) s = [c]) : ¬ told L.length (lb L) P s < pn P := by
  unfold told
  rw [hw, fstB_n (fun i hi => decide_eq_false (h2 i hi))]
  omega
end Lb
