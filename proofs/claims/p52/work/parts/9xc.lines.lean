
/-! ===== a text as the list of its bytes: lines ===== -/
section Lc
variable {L B C Z : List Nat} {s p x y t : Nat} {P : zPl} {N : Nat} {r : Nat → Nat}
/-- a weight, where one is told -/
def wgt (w : Nat) (b : Bool) : List Nat := if b then 32 :: (wdL 3 ++ 32 :: (48 + w) :: []) else []
def ln0 (c q w sc : Nat) (b : Bool) : List Nat := wdL 0 ++ 32 :: c :: 32 :: (wdL (1 + sc) ++ 32 :: (48 + q) :: (wgt w b ++ 59 :: []))
theorem isDg_n {v : Nat} (h : v < 10) : isDg (48 + v) = true := by
  have : ∀ v, v < 10 → isDg (48 + v) = true := by decide
  exact this v h
theorem isBl_n {v : Nat} (h : v < 10) : isBl (48 + v) = false := by
  have : ∀ v, v < 10 → isBl (48 + v) = false := by decide
  exact this v h
theorem isBl_l {c : Nat} (h : isLt c = true) : isBl c = false := by
  unfold isLt at h
  rw [Bool.and_eq_true, decide_eq_true_eq, decide_eq_true_eq] at h
  unfold isBl
  rw [Bool.or_eq_false_iff, Bool.or_eq_false_iff, beq_eq_false_iff_ne, beq_eq_false_iff_ne, beq_eq_false_iff_ne]
  omega
theorem l_field {c q w sc : Nat} {b : Bool} (hsc : sc ≤ 1) (hc : isLt c = true) (hq : 2 ≤ q ∧ q ≤ 5) (hw : 1 ≤ w ∧ w ≤ 9) (hb : b = false → w = 1) (hnew : ∀ f, f < pn P → pl P f ≠ [c]) (c1 : pm P = 0) (c3 : pg P = 9) (c4 : pn P < 5) (h : sfx L s (ln0 c q w sc b ++ B)) : ∃ t', lnP L.length (lb L) s P 0 r t' (wF P q w sc [c]) 0 r ∧ sfx L t' (59 :: B) := by
  have e0 : ln0 c q w sc b ++ B = wdL 0 ++ 32 :: c :: 32 :: (wdL (1 + sc) ++ 32 :: (48 + q) :: (wgt w b ++ 59 :: B)) := by
    unfold ln0
    simp only [List.append_assoc, List.cons_append, List.nil_append]
  rw [e0] at h
  obtain ⟨a1, a2, a3⟩ := T_k (k := 0) (by omega) h (gap_b (isBl_l hc))
  obtain ⟨y, D, ey, hy⟩ : ∃ y D, wdL (1 + sc) ++ 32 :: (48 + q) :: (wgt w b ++ 59 :: B) = y :: D ∧ isBl y = false := by
    rcases (show sc = 0 ∨ sc = 1 by omega) with rfl | rfl
    · exact ⟨_, _, rfl, rfl⟩
    · exact ⟨_, _, rfl, rfl⟩
  rw [ey] at a2
  obtain ⟨b1, b2, b3⟩ := T_n hc a2 (gap_b hy)
  rw [← ey] at b2
  obtain ⟨d1, d2, d3⟩ := T_k (k := 1 + sc) (by omega) b2 (gap_b (isBl_n (by omega)))
  have hno := told_no hnew b1
  have hfd : ∀ t', fdV L.length (lb L) (sk L.length (lb L) (te L.length (lb L) (sk L.length (lb L) (te L.length (lb L) (sk L.length (lb L) (te L.length (lb L) s)))))) sc = .inl (t', q, w, sc) → fdR P L.length (lb L) (sk L.length (lb L) (te L.length (lb L) s)) = .inl (t', q, w, sc) := fun t' e => by
    unfold fdR
    rw [if_pos ⟨b3, hno⟩, d1]
    rcases (show sc = 0 ∨ sc = 1 by omega) with rfl | rfl
    · rw [if_pos rfl]
      exact e
    · rw [if_neg (show wdL (1 + 1) ≠ wdL 1 by decide), if_pos rfl]
      exact e
  have key : ∃ t', fdV L.length (lb L) (sk L.length (lb L) (te L.length (lb L) (sk L.length (lb L) (te L.length (lb L) (sk L.length (lb L) (te L.length (lb L) s)))))) sc = .inl (t', q, w, sc) ∧ sfx L t' (59 :: B) := by
    cases b with
    | false =>
      have hw1 := hb rfl
      obtain ⟨e1, e2, e3, e4⟩ := T_d (Z := 59 :: B) d2 (isDg_n (by omega)) (gap_s rfl)
      refine ⟨_, ?_, e2⟩
      unfold fdV
      rw [if_pos (e4 2 5 (by omega) (by omega)), e1]
      unfold fdW
      have hn : wd L.length (lb L) (sk L.length (lb L) (te L.length (lb L) (sk L.length (lb L) (te L.length (lb L) (sk L.length (lb L) (te L.length (lb L) (sk L.length (lb L) (te L.length (lb L) s)))))))) ≠ wdL 3 := fun e => by
        have h1 := (wd_eq.mp e).2 0 (by decide)
        rw [Nat.add_zero, (sfx_at e2).2.1] at h1
        exact absurd h1 (by decide)
      rw [if_neg hn, hw1, show 48 + q - 48 = q by omega]
    | true =>
      obtain ⟨e1, e2, e3, e4⟩ := T_d (Z := 32 :: (wdL 3 ++ 32 :: (48 + w) :: 59 :: B)) d2 (isDg_n (by omega)) (gap_b (y := 119) rfl)
      obtain ⟨f1, f2, f3⟩ := T_k (k := 3) (by omega) e2 (gap_b (isBl_n (by omega)))
      obtain ⟨g1, g2, g3, g4⟩ := T_d (Z := 59 :: B) f2 (isDg_n (by omega)) (gap_s rfl)
      refine ⟨_, ?_, g2⟩
      unfold fdV
      rw [if_pos (e4 2 5 (by omega) (by omega)), e1]
      unfold fdW
      rw [if_pos f1, if_pos (g4 1 9 (by omega) (by omega)), g1, show 48 + q - 48 = q by omega, show 48 + w - 48 = w by omega]
  obtain ⟨t', k1, k2⟩ := key
  exact ⟨t', Or.inl ⟨a1, c1, rfl, c3, c4, q, w, sc, hfd t' k1, by rw [b1], rfl, rfl⟩, k2⟩
def ln4 (c : Nat) : List Nat := wdL 4 ++ 32 :: c :: 59 :: []
theorem l_group {c f : Nat} (hc : isLt c = true) (hf : f < pn P) (h1 : pl P f = [c]) (h2 : ∀ e, e < f → pl P e ≠ [c]) (c3 : pg P = 9) (h : sfx L s (ln4 c ++ B)) : ∃ t', lnP L.length (lb L) s P N r t' (wG P f) N r ∧ sfx L t' (59 :: B) := by
  have e0 : ln4 c ++ B = wdL 4 ++ 32 :: c :: 59 :: B := by
    unfold ln4
    simp only [List.append_assoc, List.cons_append, List.nil_append]
  rw [e0] at h
  obtain ⟨a1, a2, a3⟩ := T_k (k := 4) (by omega) h (gap_b (isBl_l hc))
  obtain ⟨b1, b2, b3⟩ := T_n (Z := 59 :: B) hc a2 (gap_s rfl)
  have ht := told_at hf h1 h2 b1
  exact ⟨_, Or.inr (Or.inl ⟨a1, by omega, c3, by rw [ht]; exact hf, rfl, by rw [ht], rfl, rfl⟩), b2⟩
/-- a span's bytes -/
def sb (v u : Nat) (b : Bool) : List Nat := if b then [48 + v, 45, 48 + u] else [48 + v]
/-- two spans at most -/
def sps (v u : Nat) (b : Bool) (o : Option (Nat × Nat × Bool)) : List Nat := match o with
  | none => sb v u b
  | some (v', u', b') => sb v u b ++ 44 :: sb v' u' b'
theorem l_sp1 {v u hi k m : Nat} {b : Bool} (hv : v ≤ u) (hu : u ≤ hi) (hhi : hi ≤ 4) (hb : b = false → u = v) (h : sfx L t (sb v u b ++ Z)) (hg : gap Z C) {y : Nat} {D : List Nat} (hC : C = y :: D) (hy : y ≠ 45) (hy2 : y < 128) : ∃ t2, spR L.length (lb L) hi (k + 1) t m = spA L.length (lb L) (spR L.length (lb L) hi k) v u t2 m ∧ sfx L t2 C := by
  cases b with
  | false =>
    have huv := hb rfl
    subst huv
    obtain ⟨e1, e2, e3, e4⟩ := T_d (d := 48 + u) (Z := Z) h (isDg_n (by omega)) hg
    refine ⟨sk L.length (lb L) (te L.length (lb L) t), ?_, e2⟩
    have hn : chr L.length (lb L) (sk L.length (lb L) (te L.length (lb L) t)) ≠ 45 := fun e => by
      rw [hC] at e2
      exact hy ((nN_eq (by omega) (by omega)).mp (show nI y = nI 45 from (sfx_chr e2).symm.trans e))
    show (@ite _ _ (Classical.propDecidable _) _ _ : (Nat × Nat) ⊕ Nat) = _
    rw [if_pos (e4 0 hi (by omega) (by omega)), if_neg hn, e1, show 48 + u - 48 = u by omega]
  | true =>
    obtain ⟨e1, e2, e3, e4⟩ := T_d (d := 48 + v) (Z := 45 :: (48 + u) :: Z) h (isDg_n (by omega)) (gap_s rfl)
    have e5 := T_o (d := 45) (Z := (48 + u) :: Z) e2 rfl rfl ⟨_, _, rfl, isBl_n (by omega)⟩
    obtain ⟨f1, f2, f3, f4⟩ := T_d (d := 48 + u) (Z := Z) e5 (isDg_n (by omega)) hg
    refine ⟨_, ?_, f2⟩
    show (@ite _ _ (Classical.propDecidable _) _ _ : (Nat × Nat) ⊕ Nat) = _
    rw [if_pos (e4 0 hi (by omega) (by omega)), if_pos (show chr L.length (lb L) (sk L.length (lb L) (te L.length (lb L) t)) = 45 from sfx_chr e2), e1, show 48 + v - 48 = v by omega, if_pos (f4 v hi (by omega) (by omega)), f1, show 48 + u - 48 = u by omega]
/-- spans that are well -/
def spO (hi v u : Nat) (b : Bool) : Prop := v ≤ u ∧ u ≤ hi ∧ (b = false → u = v)
def spsO (hi v u : Nat) (b : Bool) (o : Option (Nat × Nat × Bool)) : Prop := spO hi v u b ∧ match o with
  | none => True
  | some (v', u', b') => spO hi v' u' b'
theorem sb_hd {v u : Nat} {b : Bool} (hv : v ≤ 4) (Z : List Nat) : ∃ D, sb v u b ++ Z = (48 + v) :: D := by
  cases b with
  | false => exact ⟨_, rfl⟩
  | true => exact ⟨_, rfl⟩
theorem l_sps {hi v u n m : Nat} {b : Bool} {o : Option (Nat × Nat × Bool)} (hhi : hi ≤ 4) (ho : spsO hi v u b o) (h : sfx L t (sps v u b o ++ Z)) (hg : gap Z C) {y : Nat} {D : List Nat} (hC : C = y :: D) (hy : y ≠ 45 ∧ y ≠ 44) (hy2 : y < 128) : ∃ t2 m', spR L.length (lb L) hi (n + 2) t m = .inl (t2, m') ∧ sfx L t2 C := by
  obtain ⟨⟨h1, h2, h3⟩, h4⟩ := ho
  have fin : ∀ {t2 : Nat}, sfx L t2 C → chr L.length (lb L) t2 ≠ 44 := fun {t2} q e => by
    rw [hC] at q
    exact hy.2 ((nN_eq (by omega) (by omega)).mp (show nI y = nI 44 from (sfx_chr q).symm.trans e))
  cases o with
  | none =>
    obtain ⟨t2, e1, e2⟩ := l_sp1 (k := n + 1) (m := m) h1 h2 hhi h3 (show sfx L t (sb v u b ++ Z) from h) hg hC hy.1 hy2
    refine ⟨t2, spM m v u, ?_, e2⟩
    rw [e1]
    unfold spA
    rw [if_neg (fin e2)]
  | some w =>
    obtain ⟨v', u', b'⟩ := w
    obtain ⟨g1, g2, g3⟩ := h4
    have hz : sfx L t (sb v u b ++ (44 :: (sb v' u' b' ++ Z))) := by
      have e : sps v u b (some (v', u', b')) ++ Z = sb v u b ++ (44 :: (sb v' u' b' ++ Z)) := by
        show (sb v u b ++ 44 :: sb v' u' b') ++ Z = _
        rw [List.append_assoc]
        rfl
      rw [← e]
      exact h
    obtain ⟨t2, e1, e2⟩ := l_sp1 (k := n + 1) (m := m) h1 h2 hhi h3 hz (gap_s (y := 44) rfl) rfl (by omega) (by omega)
    obtain ⟨D', ed⟩ := sb_hd (v := v') (u := u') (b := b') (by omega) Z
    have e3 := T_o (d := 44) e2 rfl rfl ⟨48 + v', D', ed, isBl_n (by omega)⟩
    obtain ⟨t3, f1, f2⟩ := l_sp1 (k := n) (m := spM m v u) g1 g2 hhi g3 e3 hg hC hy.1 hy2
    refine ⟨t3, spM (spM m v u) v' u', ?_, f2⟩
    rw [e1]
    unfold spA
    rw [if_pos (show chr L.length (lb L) t2 = 44 from sfx_chr e2)]
    show spR L.length (lb L) hi (n + 1) _ _ = _
    rw [f1]
    unfold spA
    rw [if_neg (fin f2)]
/-- one test of an edit: a name, in, spans -/
def tst (c v u : Nat) (b : Bool) (o : Option (Nat × Nat × Bool)) (Z : List Nat) : List Nat := c :: 32 :: (wdL 7 ++ 32 :: (sps v u b o ++ Z))
theorem sps_hd {v u : Nat} {b : Bool} {o : Option (Nat × Nat × Bool)} (hv : v ≤ 4) (Z : List Nat) : ∃ D, sps v u b o ++ Z = (48 + v) :: D := by
  cases o with
  | none => exact sb_hd hv Z
  | some w =>
    obtain ⟨v', u', b'⟩ := w
    show ∃ D, (sb v u b ++ 44 :: sb v' u' b') ++ Z = _
    rw [List.append_assoc]
    exact sb_hd hv _
theorem l_tst {c f v u : Nat} {b : Bool} {o : Option (Nat × Nat × Bool)} (hc : isLt c = true) (hf : f < pn P) (h1 : pl P f = [c]) (h2 : ∀ e, e < f → pl P e ≠ [c]) (hq : 1 ≤ pq P f ∧ pq P f ≤ 5) (ho : spsO (pq P f - 1) v u b o) (hL : 1 ≤ L.length) (h : sfx L t (tst c v u b o Z)) (hg : gap Z C) {y : Nat} {D : List Nat} (hC : C = y :: D) (hy : y ≠ 45 ∧ y ≠ 44) (hy2 : y < 128) : told L.length (lb L) P t = f ∧ wd L.length (lb L) (sk L.length (lb L) (te L.length (lb L) t)) = wdL 7 ∧ ∃ t2 m', spR L.length (lb L) (pq P f - 1) (L.length + 1) (sk L.length (lb L) (te L.length (lb L) (sk L.length (lb L) (te L.length (lb L) t)))) 0 = .inl (t2, m') ∧ sfx L t2 C := by
  have hv : v ≤ 4 := by
    have := ho.1.1
    have := ho.1.2.1
    omega
  obtain ⟨D', ed⟩ := sps_hd (v := v) (u := u) (b := b) (o := o) hv Z
  obtain ⟨a1, a2, a3⟩ := T_n hc h (gap_b (y := 105) rfl)
  have a2' : sfx L (sk L.length (lb L) (te L.length (lb L) t)) (wdL 7 ++ 32 :: (48 + v) :: D') := by
    rw [← ed]
    exact a2
  obtain ⟨b1, b2, b3⟩ := T_k (k := 7) (by omega) a2' (gap_b (isBl_n (by omega)))
  rw [← ed] at b2
  obtain ⟨n, en⟩ : ∃ n, L.length + 1 = n + 2 := ⟨L.length - 1, by omega⟩
  rw [en]
  exact ⟨told_at hf h1 h2 a1, b1, l_sps (by omega) ho b2 hg hC hy hy2⟩
/-- an edit's line: one test, or two of other fields -/
def ln5 (c v u : Nat) (b : Bool) (o : Option (Nat × Nat × Bool)) (e : Option (Nat × Nat × Nat × Bool × Option (Nat × Nat × Bool))) : List Nat := wdL 5 ++ 32 :: tst c v u b o (match e with
  | none => 59 :: []
  | some (c', v', u', b', o') => 32 :: (wdL 6 ++ 32 :: tst c' v' u' b' o' (59 :: [])))
theorem tst_app (c v u : Nat) (b : Bool) (o : Option (Nat × Nat × Bool)) (Z B : List Nat) : tst c v u b o Z ++ B = tst c v u b o (Z ++ B) := by
  unfold tst
  simp only [List.append_assoc, List.cons_append]
theorem l_edit1 {c f v u : Nat} {b : Bool} {o : Option (Nat × Nat × Bool)} (hc : isLt c = true) (hf : f < pn P) (h1 : pl P f = [c]) (h2 : ∀ e, e < f → pl P e ≠ [c]) (hq : 1 ≤ pq P f ∧ pq P f ≤ 5) (ho : spsO (pq P f - 1) v u b o) (hm : pm P < 6) (h : sfx L s (ln5 c v u b o none ++ B)) : ∃ t' V', lnP L.length (lb L) s P N r t' (wE P V') N r ∧ sfx L t' (59 :: B) := by
  have e0 : ln5 c v u b o none ++ B = wdL 5 ++ 32 :: (tst c v u b o (59 :: B)) := by
    show (wdL 5 ++ 32 :: tst c v u b o (59 :: [])) ++ B = _
    rw [List.append_assoc, List.cons_append, tst_app]
    rfl
  rw [e0] at h
  obtain ⟨a1, a2, a3⟩ := T_k (k := 5) (by omega) h (gap_b (isBl_l hc))
  obtain ⟨b1, b2, t2, m', b3, b4⟩ := l_tst (C := 59 :: B) hc hf h1 h2 hq ho (by omega) a2 (gap_s rfl) rfl (by omega) (by omega)
  refine ⟨t2, upA (aV P) f m', Or.inr (Or.inr (Or.inl ⟨a1, by omega, hm, upA (aV P) f m', ?_, rfl, rfl, rfl⟩)), b4⟩
  · show (if told L.length (lb L) P _ < pn P ∧ _ then _ else _ : (Nat × (Nat → Nat)) ⊕ Nat) = _
    rw [b1, if_pos ⟨hf, Nat.zero_testBit _⟩, if_pos b2, b3]
    dsimp only
    have hn : wd L.length (lb L) t2 ≠ wdL 6 := fun e => by
      have q := (wd_eq.mp e).2 0 (by decide)
      rw [Nat.add_zero, (sfx_at b4).2.1] at q
      exact absurd q (by decide)
    rw [if_neg hn]
theorem l_edit2 {c f v u c' f' v' u' : Nat} {b b' : Bool} {o o' : Option (Nat × Nat × Bool)} (hc : isLt c = true) (hf : f < pn P) (h1 : pl P f = [c]) (h2 : ∀ e, e < f → pl P e ≠ [c]) (hq : 1 ≤ pq P f ∧ pq P f ≤ 5) (ho : spsO (pq P f - 1) v u b o) (hc' : isLt c' = true) (hf' : f' < pn P) (h1' : pl P f' = [c']) (h2' : ∀ e, e < f' → pl P e ≠ [c']) (hq' : 1 ≤ pq P f' ∧ pq P f' ≤ 5) (ho' : spsO (pq P f' - 1) v' u' b' o') (hne : f' ≠ f) (hm : pm P < 6) (h : sfx L s (ln5 c v u b o (some (c', v', u', b', o')) ++ B)) : ∃ t' V', lnP L.length (lb L) s P N r t' (wE P V') N r ∧ sfx L t' (59 :: B) := by
  have e0 : ln5 c v u b o (some (c', v', u', b', o')) ++ B = wdL 5 ++ 32 :: (tst c v u b o (32 :: (wdL 6 ++ 32 :: (tst c' v' u' b' o' (59 :: B))))) := by
    show (wdL 5 ++ 32 :: tst c v u b o (32 :: (wdL 6 ++ 32 :: tst c' v' u' b' o' (59 :: [])))) ++ B = _
    rw [List.append_assoc, List.cons_append, tst_app, List.cons_append, List.append_assoc, List.cons_append, tst_app]
    rfl
  rw [e0] at h
  obtain ⟨a1, a2, a3⟩ := T_k (k := 5) (by omega) h (gap_b (isBl_l hc))
  obtain ⟨b1, b2, t2, m', b3, b4⟩ := l_tst (C := wdL 6 ++ 32 :: (tst c' v' u' b' o' (59 :: B))) hc hf h1 h2 hq ho (by omega) a2 (gap_b (y := 97) rfl) (y := 97) rfl (by omega) (by omega)
  obtain ⟨d1, d2, d3⟩ := T_k (k := 6) (by omega) b4 (gap_b (isBl_l hc'))
  obtain ⟨g1, g2, t3, m2, g3, g4⟩ := l_tst (C := 59 :: B) hc' hf' h1' h2' hq' ho' (by omega) d2 (gap_s rfl) rfl (by omega) (by omega)
  refine ⟨t3, upA (upA (aV P) f m') f' m2, Or.inr (Or.inr (Or.inl ⟨a1, by omega, hm, upA (upA (aV P) f m') f' m2, ?_, rfl, rfl, rfl⟩)), g4⟩
  · show (if told L.length (lb L) P _ < pn P ∧ _ then _ else _ : (Nat × (Nat → Nat)) ⊕ Nat) = _
    rw [b1, if_pos ⟨hf, Nat.zero_testBit _⟩, if_pos b2, b3]
    dsimp only
    rw [if_pos d1]
    show (if told L.length (lb L) P _ < pn P ∧ _ then _ else _ : (Nat × (Nat → Nat)) ⊕ Nat) = _
    have hbit : (0 ||| 2 ^ f).testBit f' = false := by
      rw [Nat.zero_or, Nat.testBit_two_pow]
      exact decide_eq_false (fun e => hne e.symm)
    rw [g1, if_pos ⟨hf', hbit⟩, if_pos g2, g3]
    dsimp only
    have hn : wd L.length (lb L) t3 ≠ wdL 6 := fun e => by
      have q := (wd_eq.mp e).2 0 (by decide)
      rw [Nat.add_zero, (sfx_at g4).2.1] at q
      exact absurd q (by decide)
    rw [if_neg hn]
/-- answers, each behind a blank -/
def rb : List Nat → List Nat → List Nat
  | [], Z => Z
  | a :: as, Z => 32 :: a :: rb as Z
def ln8 (as : List Nat) : List Nat := wdL 8 ++ rb as (59 :: [])
theorem rb_app : ∀ (as Z B : List Nat), rb as Z ++ B = rb as (Z ++ B)
  | [], _, _ => rfl
  | a :: as, Z, B => by
    show 32 :: a :: (rb as Z ++ B) = 32 :: a :: rb as (Z ++ B)
    rw [rb_app as Z B]
/-- an answer: ? or a value of the field -/
def ansO (P : zPl) (f a : Nat) : Prop := a = 63 ∨ ∃ v, v < pq P f ∧ a = 48 + v
theorem rb_gap {as : List Nat} (has : ∀ a, a ∈ as → isBl a = false) : ∃ C, gap (rb as (59 :: B)) C := by
  cases as with
  | nil => exact ⟨_, gap_s (y := 59) rfl⟩
  | cons a as => exact ⟨_, gap_b (has a (List.mem_cons_self ..))⟩
theorem l_ans (hq : ∀ f, f < pn P → pq P f ≤ 5) : ∀ (as : List Nat) (f c p : Nat), f + as.length = pn P → (∀ i, i < as.length → ansO P (f + i) (as.getD i 0)) → sfx L p (rb as (59 :: B)) → ∃ t' c', rowR P L.length (lb L) as.length f (sk L.length (lb L) p) c = .inl (t', c') ∧ sfx L t' (59 :: B)
  | [], f, c, p, hf, ha, h => ⟨sk L.length (lb L) p, c, rfl, by rw [sk_no h rfl]; exact h⟩
  | a :: as, f, c, p, hf, ha, h => by
    rw [List.length_cons] at hf ha
    have h0 : ansO P f a := ha 0 (by omega)
    have hb : ∀ {g b : Nat}, g < pn P → ansO P g b → isBl b = false ∧ b < 128 := fun {g b} hg q => by
      rcases q with rfl | ⟨v, hv, rfl⟩
      · exact ⟨rfl, by omega⟩
      · have := hq g hg
        exact ⟨isBl_n (by omega), by omega⟩
    obtain ⟨e1, e2⟩ := sk_bl (x := a) (B := rb as (59 :: B)) h (hb (by omega) h0).1
    have hz : ∃ y D, rb as (59 :: B) = y :: D ∧ isDg y = false ∧ isLt y = false := by
      cases as with
      | nil => exact ⟨_, _, rfl, rfl, rfl⟩
      | cons b as => exact ⟨_, _, rfl, rfl, rfl⟩
    obtain ⟨y, D, ey, y1, y2⟩ := hz
    have hte : te L.length (lb L) (p + 1) = p + 2 := by
      obtain ⟨q1, q2, q3⟩ := sfx_at e2
      rcases h0 with rfl | ⟨v, hv, rfl⟩
      · unfold te
        rw [if_pos q1, q2, if_neg (by decide), if_neg (by decide)]
      · have hv10 : v < 10 := by have := hq f (by omega); omega
        have hr := rn_ps (c := isDg) (w := [48 + v]) (B := rb as (59 :: B)) e2 (fun z hz => by rw [List.mem_singleton.mp hz]; exact isDg_n hv10) (fun z E e => by rw [ey] at e; rw [← (List.cons.inj e).1]; exact y1)
        unfold te
        rw [if_pos q1, q2, if_neg (by rw [isLt_dg (isDg_n hv10)]; exact Bool.false_ne_true), if_pos (isDg_n hv10), hr]
        rfl
    have h2 : sfx L (p + 2) (rb as (59 :: B)) := (sfx_at e2).2.2
    have ih := fun c => l_ans hq as (f + 1) c (p + 2) (by omega) (fun i hi => by
      have := ha (i + 1) (by omega)
      rw [show f + (i + 1) = f + 1 + i by omega] at this
      exact this) h2
    rw [List.length_cons, e1]
    show ∃ t' c', (if chr L.length (lb L) (p + 1) = 63 then rowR P L.length (lb L) as.length (f + 1) (sk L.length (lb L) (te L.length (lb L) (p + 1))) c else _ : (Nat × Nat) ⊕ Nat) = _ ∧ _
    rw [hte]
    rcases h0 with rfl | ⟨v, hv, rfl⟩
    · rw [if_pos (show chr L.length (lb L) (p + 1) = 63 from sfx_chr e2)]
      exact ih c
    · have hv5 := hq f (by omega)
      have hn : chr L.length (lb L) (p + 1) ≠ 63 := fun e => by
        have := (nN_eq (by omega) (by omega)).mp (show nI (48 + v) = nI 63 from (sfx_chr e2).symm.trans e)
        omega
      have hd : dgO L.length (lb L) (p + 1) 0 (pq P f - 1) := by
        obtain ⟨q1, q2, q3⟩ := sfx_at e2
        unfold dgO
        rw [hte, q2]
        exact ⟨by omega, q1, by omega, by omega⟩
      rw [if_neg hn, if_pos hd]
      exact ih _
theorem l_row {as : List Nat} (hq : ∀ f, f < pn P → pq P f ≤ 5) (hp : pn P ≠ 0) (hN : N < 40) (hl : as.length = pn P) (ha : ∀ i, i < pn P → ansO P i (as.getD i 0)) (h : sfx L s (ln8 as ++ B)) : ∃ t' r', lnP L.length (lb L) s P N r t' P (N + 1) r' ∧ sfx L t' (59 :: B) := by
  have e0 : ln8 as ++ B = wdL 8 ++ rb as (59 :: B) := by
    show (wdL 8 ++ rb as (59 :: [])) ++ B = _
    rw [List.append_assoc, rb_app]
    rfl
  rw [e0] at h
  have hsp := sfx_app h
  cases as with
  | nil => rw [List.length_nil] at hl; omega
  | cons a as =>
    have hb : isBl a = false := by
      rcases ha 0 (by omega) with q | ⟨v, hv, q⟩
      · rw [show a = 63 from q]; rfl
      · have := hq 0 (by omega)
        rw [show a = 48 + v from q]
        exact isBl_n (by omega)
    obtain ⟨a1, a2, a3⟩ := T_k (k := 8) (by omega) h (gap_b hb)
    have hte : te L.length (lb L) s = s + (wdL 8).length := by
      have hr := rn_ps (c := isLt) h (wdL_mem (by omega)) (fun z E e => by rw [← (List.cons.inj e).1]; rfl)
      have hpos := (rn_pos (tn := L.length) (tb := lb L) (c := isLt) (p := s) a3).mp (by rw [hr]; decide)
      unfold te
      rw [if_pos a3, if_pos hpos, hr]
    obtain ⟨t', c', e1, e2⟩ := l_ans (P := P) hq (a :: as) 0 0 (s + (wdL 8).length) (by omega) (fun i hi => by rw [Nat.zero_add]; exact ha i (by omega)) hsp
    refine ⟨t', upA r N c', Or.inr (Or.inr (Or.inr ⟨a1, hp, hN, c', ?_, rfl, rfl, rfl⟩)), e2⟩
    rw [hte, ← hl]
    exact e1
end Lc
