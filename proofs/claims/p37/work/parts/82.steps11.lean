
/-! ===== steps: bunch ===== -/
section S11
variable {S S' : zSt} {g h k : zS} {P : zPl} {N : Nat} {r : Nat → Nat}
/-- on the way to a row's bunch -/
def rbI (A : Nat → Nat → Bool) (N : Nat) (B : Nat → Nat) (b w : Nat) (B' : Nat → Nat) : Prop := B' w = b + 1 ∧ (∀ x, x < N → B x ≠ 0 → B' x = B x) ∧ ∀ x, x < N → B x = 0 → B' x = 0 ∨ (B' x = b + 1 ∧ Rch A N B w x)
theorem rbI_up {A : Nat → Nat → Bool} {B B' : Nat → Nat} {b w : Nat} (hB : ∀ x, x < N → B x ≤ b) (h : rbI A N B b w B') {a x : Nat} (ha : a < N) (hx : x < N) (h1 : B' a = b + 1) (h0 : B' x = 0) (hA : A a x = true) : rbI A N B b w (upA B' x (b + 1)) := by
  obtain ⟨q1, q2, q3⟩ := h
  have hxw : w ≠ x := fun e => by rw [e, h0] at q1; omega
  have hBx : B x = 0 := Decidable.byContradiction fun e => by have := q2 x hx e; omega
  have hBa : B a = 0 := Decidable.byContradiction fun e => by have := q2 a ha e; have := hB a ha; omega
  have hRa : Rch A N B w a := by
    rcases q3 a ha hBa with e | e
    · omega
    · exact e.2
  refine ⟨?_, fun y hy hb => ?_, fun y hy hb => ?_⟩
  · show (if w = x then _ else _) = _
    rw [if_neg hxw]; exact q1
  · show (if y = x then _ else _) = _
    rw [if_neg (fun e => hb (by rw [e]; exact hBx))]
    exact q2 y hy hb
  · show (if y = x then b + 1 else B' y) = 0 ∨ ((if y = x then b + 1 else B' y) = b + 1 ∧ _)
    by_cases e : y = x
    · rw [if_pos e, e]
      exact Or.inr ⟨rfl, fun T hT hs => hs a x (hRa T hT hs) hx hBx hA⟩
    · rw [if_neg e]
      exact q3 y hy hb
/-- one pass over all pairs, so far -/
def paI (A : Nat → Nat → Bool) (N : Nat) (B0 : Nat → Nat) (b a x : Nat) (fl : Int32) (B' : Nat → Nat) : Prop := (fl = 0 ∧ (∀ y, y < N → B' y = B0 y) ∧ ∀ a' x', a' < N → x' < N → (a' < a ∨ (a' = a ∧ x' < x)) → B0 a' = b + 1 → A a' x' = true → B0 x' ≠ 0) ∨ (fl = 1 ∧ cnt (fun y => B' y == 0) N < cnt (fun y => B0 y == 0) N)
/-- the reference's bunches -/
def bnS (N : Nat) (g0 : zS) (B' : Nat → Nat) (s : zS) : Prop := (∀ x, x < N → s.1 70 x = nJ (B' x)) ∧ sc g0 s ∧ s.1 42 0 = 0
theorem bnS_up {B' : Nat → Nat} {s : zS} (h : bnS N g B' s) {x b : Nat} : bnS N g (upA B' x (b + 1)) (zi s 70 x (nI b)) := by
  refine ⟨fun y hy => ?_, sc_tr h.2.1 (sc_zi rfl _ _), by rw [zi_else _ _ (by omega)]; exact h.2.2⟩
  show _ = nJ (if y = x then b + 1 else B' y)
  by_cases e : y = x
  · rw [e, zi_at, if_pos rfl, nJ_s]
  · rw [zi_else _ _ (by omega), if_neg e]; exact h.1 y hy
theorem cnt_up0 {B' : Nat → Nat} {x b : Nat} (hx : x < N) (h0 : B' x = 0) : cnt (fun y => upA B' x (b + 1) y == 0) N < cnt (fun y => B' y == 0) N := by
  have := cnt_upd (p := fun y => upA B' x (b + 1) y == 0) (p' := fun y => B' y == 0) (j := x) (by show ((if x = x then b + 1 else B' x) == 0) = false; rw [if_pos rfl]; rfl) (by show (B' x == 0) = true; rw [h0]; rfl) (fun i hi => by show (B' i == 0) = ((if i = x then b + 1 else B' i) == 0); rw [if_neg hi]) N hx
  omega
theorem m_b117 (hO : pOK P) (hM : mP P g) (hR : mR P N r g) {n a1 i : Int32} {B B0 : Nat → Nat} {b w : Nat} (hB : ∀ x, x < N → B x ≤ b) (hb : b < 2147483000) {a : Nat} (ha : a < N) {s : Int32 × zS} {B' : Nat → Nat} (h1 : rbI (adj P r n) N B b w B') (h2 : bnS N g B' s.2) (h3 : paI (adj P r n) N B0 b a 0 s.1 B') : ∃ o, wh (wX11_bunch_117 a1 n (nI b) i (nI a)) (s.1, (0 : Int32), s.2) = some o ∧ ∃ t : Int32 × Int32 × zS, o = .inl t ∧ t.2.1 = nI (a + 1) ∧ ∃ B', rbI (adj P r n) N B b w B' ∧ bnS N g B' t.2.2 ∧ paI (adj P r n) N B0 b (a + 1) 0 t.1 B' := by
  have hN := hR.2.1
  refine wh_post (fun t : Int32 × Int32 × zS => ∃ x B', x ≤ N ∧ t.2.1 = nI x ∧ rbI (adj P r n) N B b w B' ∧ bnS N g B' t.2.2 ∧ paI (adj P r n) N B0 b a x t.1 B') (fun t => N - t.2.1.toNatClampNeg) (fun (o : (Int32 × Int32 × zS) ⊕ ((Int32 × zS) ⊕ ((Int32 × Int32 × zS) ⊕ (Int32 × zS)))) => ∃ t : Int32 × Int32 × zS, o = .inl t ∧ t.2.1 = nI (a + 1) ∧ ∃ B', rbI (adj P r n) N B b w B' ∧ bnS N g B' t.2.2 ∧ paI (adj P r n) N B0 b (a + 1) 0 t.1 B') ?_ _ ⟨0, B', Nat.zero_le _, rfl, h1, h2, h3⟩
  intro t ⟨x, B', hx, j1, j2, j3, j4⟩
  have hRz := mR_sc j3.2.1 hR
  have hMz := mP_sc j3.2.1 hM
  have hle : ∀ y, y < N → B' y < 2147483600 := fun y hy => by
    by_cases e : B y = 0
    · rcases j2.2.2 y hy e with q | q
      · omega
      · omega
    · have := j2.2.1 y hy e; have := hB y hy; omega
  unfold wX11_bunch_117
  rw [j1, hRz.1]
  by_cases q : N ≤ x
  · rw [if_pos ((nN_le (by omega) (by omega)).mpr q)]
    refine ⟨_, rfl, _, rfl, nI_s a, B', j2, j3, ?_⟩
    rcases j4 with ⟨e1, e2, e3⟩ | e
    · refine Or.inl ⟨e1, e2, fun a' x' ha' hx' hlt => e3 a' x' ha' hx' (by omega)⟩
    · exact Or.inr e
  · rw [if_neg (fun e => q ((nN_le (by omega) (by omega)).mp e)), zchk_t (zin_nI (by omega) (by omega)), nI_cl (by omega), j3.1 a ha]
    have la := hle a ha
    have lx := hle x (by omega)
    by_cases c1 : B' a = b + 1
    · rw [if_pos (by rw [c1, nJ_s]), zchk_t (zin_nI (by omega) (by omega)), nI_cl (by omega), j3.1 x (by omega)]
      have hnx : ∀ B'' : Nat → Nat, ∀ fl : Int32, ∀ s' : zS, rbI (adj P r n) N B b w B'' → bnS N g B'' s' → paI (adj P r n) N B0 b a (x + 1) fl B'' → (∃ x_1 B', x_1 ≤ N ∧ (fl, nI x + 1, s').2.1 = nI x_1 ∧ rbI (adj P r n) N B b w B' ∧ bnS N g B' (fl, nI x + 1, s').2.2 ∧ paI (adj P r n) N B0 b a x_1 (fl, nI x + 1, s').1 B') ∧ N - (fl, nI x + 1, s').2.1.toNatClampNeg < N - x := fun B'' fl s' k1 k2 k3 => ⟨⟨x + 1, B'', by omega, nI_s x, k1, k2, k3⟩, by
        dsimp only
        rw [nI_s, nI_cl (by omega)]
        omega⟩
      by_cases c2 : B' x = 0
      · have hf : nX11_farBy (nI a) (nI x) 0 t.2.2 = some (nI (far P (r a) (r x) 0 (pn P))) := m_farBy (S := 0) hO hMz hRz ha (by omega) (by omega)
        rw [if_pos ((nJ_m1 (by omega)).mpr c2), hf, Option.bind_some]
        by_cases c3 : nI (far P (r a) (r x) 0 (pn P)) ≤ n
        · rw [if_pos c3, zchk_t (zin_nI (by omega) (by omega))]
          refine ⟨_, rfl, hnx (upA B' x (b + 1)) 1 (zi t.2.2 70 x (nI b)) (rbI_up hB j2 ha (by omega) c1 c2 (decide_eq_true c3)) (bnS_up j3) (Or.inr ⟨rfl, ?_⟩)⟩
          have hu := cnt_up0 (b := b) (N := N) (by omega) c2
          rcases j4 with ⟨e1, e2, e3⟩ | e
          · rw [cnt_congr (p := fun y => B' y == 0) (q := fun y => B0 y == 0) N (fun y hy => by rw [e2 y hy])] at hu
            exact hu
          · exact Nat.lt_trans hu e.2
        · rw [if_neg c3]
          refine ⟨_, rfl, hnx B' t.1 t.2.2 j2 j3 ?_⟩
          rcases j4 with ⟨e1, e2, e3⟩ | e
          · refine Or.inl ⟨e1, e2, fun a' x' ha' hx' hlt hh hA => ?_⟩
            by_cases e4 : a' < a ∨ (a' = a ∧ x' < x)
            · exact e3 a' x' ha' hx' e4 hh hA
            · have e5 : a' = a := by omega
              have e6 : x' = x := by omega
              rw [e5, e6] at hA
              exact absurd (of_decide_eq_true hA) c3
          · exact Or.inr e
      · rw [if_neg (fun e => c2 ((nJ_m1 (by omega)).mp e))]
        refine ⟨_, rfl, hnx B' t.1 t.2.2 j2 j3 ?_⟩
        rcases j4 with ⟨e1, e2, e3⟩ | e
        · refine Or.inl ⟨e1, e2, fun a' x' ha' hx' hlt hh hA => ?_⟩
          by_cases e4 : a' < a ∨ (a' = a ∧ x' < x)
          · exact e3 a' x' ha' hx' e4 hh hA
          · have e6 : x' = x := by omega
            rw [e6, ← e2 x (by omega)]
            exact c2
        · exact Or.inr e
    · rw [if_neg (fun e => c1 (by rw [← nJ_s b] at e; exact (nJ_eq (by omega) (by omega)).mp e))]
      refine ⟨_, rfl, _, rfl, nI_s a, B', j2, j3, ?_⟩
      rcases j4 with ⟨e1, e2, e3⟩ | e
      · refine Or.inl ⟨e1, e2, fun a' x' ha' hx' hlt hh hA => ?_⟩
        by_cases e4 : a' < a
        · exact e3 a' x' ha' hx' (Or.inl e4) hh hA
        · have e5 : a' = a := by omega
          exact absurd (by rw [e2 a ha, ← e5]; exact hh) c1
      · exact Or.inr e
theorem m_b105 (hO : pOK P) (hM : mP P g) (hR : mR P N r g) {n a1 i : Int32} {B B0 : Nat → Nat} {b w : Nat} (hB : ∀ x, x < N → B x ≤ b) (hb : b < 2147483000) {s : zS} (h1 : rbI (adj P r n) N B b w B0) (h2 : bnS N g B0 s) : ∃ o, wh (wX11_bunch_105 a1 n (nI b) i) ((0 : Int32), (0 : Int32), s) = some o ∧ ∃ t : Int32 × zS, o = .inl t ∧ ∃ B', rbI (adj P r n) N B b w B' ∧ bnS N g B' t.2 ∧ paI (adj P r n) N B0 b N 0 t.1 B' := by
  have hN := hR.2.1
  refine wh_post (fun t : Int32 × Int32 × zS => ∃ a B', a ≤ N ∧ t.2.1 = nI a ∧ rbI (adj P r n) N B b w B' ∧ bnS N g B' t.2.2 ∧ paI (adj P r n) N B0 b a 0 t.1 B') (fun t => N - t.2.1.toNatClampNeg) (fun (o : (Int32 × zS) ⊕ ((Int32 × Int32 × zS) ⊕ (Int32 × zS))) => ∃ t : Int32 × zS, o = .inl t ∧ ∃ B', rbI (adj P r n) N B b w B' ∧ bnS N g B' t.2 ∧ paI (adj P r n) N B0 b N 0 t.1 B') ?_ _ ⟨0, B0, Nat.zero_le _, rfl, h1, h2, Or.inl ⟨rfl, fun _ _ => rfl, fun a' x' _ _ hlt => by omega⟩⟩
  intro t ⟨a, B', ha, j1, j2, j3, j4⟩
  have hRz := mR_sc j3.2.1 hR
  unfold wX11_bunch_105
  rw [j1, hRz.1]
  by_cases q : N ≤ a
  · rw [if_pos ((nN_le (by omega) (by omega)).mpr q)]
    have e : a = N := by omega
    subst e
    exact ⟨_, rfl, _, rfl, B', j2, j3, j4⟩
  · rw [if_neg (fun e => q ((nN_le (by omega) (by omega)).mp e))]
    obtain ⟨o, w1, t2, e1, e2, B2, e3, e4, e5⟩ := m_b117 (a1 := a1) (i := i) (s := (t.1, t.2.2)) hO hM hR hB hb (show a < N by omega) j2 j3 j4
    refine ⟨o, w1, ?_⟩
    rw [e1]
    refine ⟨⟨a + 1, B2, by omega, e2, e3, e4, e5⟩, ?_⟩
    rw [e2, nI_cl (by omega), nI_cl (by omega)]
    omega
theorem m_b94 (hO : pOK P) (hM : mP P g) (hR : mR P N r g) {n a1 : Int32} {B B0 : Nat → Nat} {b w i : Nat} (hB : ∀ x, x < N → B x ≤ b) (hb : b < 2147483000) {s : zS} (h1 : rbI (adj P r n) N B b w B0) (h2 : bnS N g B0 s) : ∃ o, wh (wX11_bunch_94 a1 n (nI b) (nI i)) ((1 : Int32), s) = some o ∧ ∃ t : Int32 × Int32 × zS, o = .inl t ∧ t.1 = nI (b + 1) ∧ t.2.1 = nI (i + 1) ∧ ∃ B', flP (adj P r n) N B b w B' ∧ bnS N g B' t.2.2 := by
  have hN := hR.2.1
  refine wh_post (fun t : Int32 × zS => ∃ B', rbI (adj P r n) N B b w B' ∧ bnS N g B' t.2 ∧ (t.1 = 0 → ∀ a x, a < N → x < N → B' a = b + 1 → adj P r n a x = true → B' x ≠ 0)) (fun t => if t.1 = 0 then 0 else 1 + cnt (fun y => decide (t.2.1 70 y = -1)) N) (fun (o : (Int32 × Int32 × zS) ⊕ (Int32 × zS)) => ∃ t : Int32 × Int32 × zS, o = .inl t ∧ t.1 = nI (b + 1) ∧ t.2.1 = nI (i + 1) ∧ ∃ B', flP (adj P r n) N B b w B' ∧ bnS N g B' t.2.2) ?_ _ ⟨B0, h1, h2, fun e => absurd (show (1 : Int32) = 0 from e) (by decide)⟩
  intro t ⟨B', j1, j2, j3⟩
  unfold wX11_bunch_94
  have hle : ∀ B' : Nat → Nat, rbI (adj P r n) N B b w B' → ∀ y, y < N → B' y < 2147483600 := fun B' j y hy => by
    by_cases e : B y = 0
    · rcases j.2.2 y hy e with q | q
      · omega
      · omega
    · have := j.2.1 y hy e; have := hB y hy; omega
  have hcn : ∀ B' : Nat → Nat, ∀ s : zS, rbI (adj P r n) N B b w B' → bnS N g B' s → cnt (fun y => decide (s.1 70 y = -1)) N = cnt (fun y => B' y == 0) N := fun B' s j1 j => cnt_congr N (fun y hy => by
    have := hle B' j1 y hy
    rw [j.1 y hy, Bool.eq_iff_iff, decide_eq_true_eq, beq_iff_eq]
    exact nJ_m1 (by omega))
  by_cases q : t.1 = 0
  · rw [if_pos q]
    exact ⟨_, rfl, _, rfl, nI_s b, nI_s i, B', ⟨j1.1, j1.2.1, j1.2.2, j3 q⟩, j2⟩
  · rw [if_neg q]
    obtain ⟨o, w1, t2, e1, B2, e3, e4, e5⟩ := m_b105 (a1 := a1) (i := nI i) hO hM hR hB hb j1 j2
    refine ⟨o, w1, ?_⟩
    rw [e1]
    refine ⟨⟨B2, e3, e4, fun e0 => ?_⟩, ?_⟩
    · rcases e5 with ⟨k1, k2, k3⟩ | k
      · intro a x ha hx hh hA
        rw [k2 a ha] at hh
        rw [k2 x hx]
        exact k3 a x ha hx (Or.inl ha) hh hA
      · rw [k.1] at e0
        exact absurd e0 (by decide)
    · show (if t2.1 = 0 then 0 else _) < (if t.1 = 0 then 0 else _)
      rw [if_neg q]
      by_cases z : t2.1 = 0
      · rw [if_pos z]; omega
      · rw [if_neg z, hcn B2 t2.2 e3 e4, hcn B' t.2 j1 j2]
        rcases e5 with k | k
        · exact absurd k.1 z
        · have := k.2
          omega
theorem m_b60 (hO : pOK P) (hM : mP P g) (hR : mR P N r g) {n a1 : Int32} (ha1 : a1 = -1 ∨ ∃ i, i < N ∧ a1 = nI i) {s : zS} (h2 : bnS N g (fun _ => 0) s) : ∃ o : Int32 × zS, wh (wX11_bunch_60 a1 n) ((0 : Int32), (0 : Int32), s) = some o ∧ ∃ b B, gbR (adj P r n) N N b B ∧ o.1 = (if a1 = -1 then nI b else nJ (B a1.toNatClampNeg)) ∧ bnS N g B o.2 := by
  have hN := hR.2.1
  refine wh_up (fun i (t : Int32 × Int32 × zS) => ∃ b B, t.1 = nI b ∧ t.2.1 = nI i ∧ gbR (adj P r n) N i b B ∧ bnS N g B t.2.2) (fun o : Int32 × zS => ∃ b B, gbR (adj P r n) N N b B ∧ o.1 = (if a1 = -1 then nI b else nJ (B a1.toNatClampNeg)) ∧ bnS N g B o.2) N (fun i t hi hI => ?_) (fun t hI => ?_) ⟨0, fun _ => 0, rfl, rfl, ⟨rfl, fun _ _ => rfl⟩, h2⟩
  · obtain ⟨b, B, j1, j2, j3, j4⟩ := hI
    have hRz := mR_sc j4.2.1 hR
    obtain ⟨l1, l2⟩ := gbR_le i (by omega) j3
    have l3 := l2 i hi
    unfold wX11_bunch_60
    rw [j2, hRz.1, if_neg (fun e => by rw [nN_le (by omega) (by omega)] at e; omega), zchk_t (zin_nI (by omega) (by omega)), nI_cl (by omega), j4.1 i hi, j1]
    by_cases c : B i = 0
    · rw [if_pos ((nJ_m1 (by omega)).mpr c), zchk_t (zin_nI (by omega) (by omega))]
      have k1 : rbI (adj P r n) N B b i (upA B i (b + 1)) := by
        refine ⟨if_pos rfl, fun x hx hb => ?_, fun x hx hb => ?_⟩
        · show (if x = i then _ else _) = _
          rw [if_neg (fun e => hb (by rw [e]; exact c))]
        · show (if x = i then b + 1 else B x) = 0 ∨ ((if x = i then b + 1 else B x) = b + 1 ∧ _)
          by_cases e : x = i
          · rw [if_pos e, e]
            exact Or.inr ⟨rfl, fun T hT _ => hT⟩
          · rw [if_neg e]; exact Or.inl hb
      obtain ⟨o, w1, t2, e1, e2, e3, B2, e4, e5⟩ := m_b94 (n := n) (a1 := a1) (i := i) hO hM hR l2 (by omega) k1 (bnS_up (x := i) (b := b) j4)
      exact ⟨t2, by rw [w1, e1], b + 1, B2, e2, e3, ⟨b, B, j3, Or.inl ⟨c, rfl, e4⟩⟩, e5⟩
    · rw [if_neg (fun e => c ((nJ_m1 (by omega)).mp e))]
      exact ⟨_, rfl, b, B, rfl, nI_s i, ⟨b, B, j3, Or.inr ⟨c, rfl, fun _ _ => rfl⟩⟩, j4⟩
  · obtain ⟨b, B, j1, j2, j3, j4⟩ := hI
    have hRz := mR_sc j4.2.1 hR
    unfold wX11_bunch_60
    rw [j2, hRz.1, if_pos (Int32.le_refl _), j1]
    by_cases c : a1 = -1
    · rw [if_pos c]
      exact ⟨_, rfl, b, B, j3, by rw [if_pos c], j4⟩
    · rcases ha1 with e | ⟨i, hi, e⟩
      · exact absurd e c
      · rw [if_neg c, e, zchk_t (zin_nI (by omega) (by omega)), nI_cl (by omega), j4.1 i hi]
        exact ⟨_, rfl, b, B, j3, by rw [if_neg (by rw [← e]; exact c)], j4⟩
theorem m_inM {a : Int32} {n : Nat} (hn : n < 2147483647) (h : a = -1 ∨ ∃ i, i < n ∧ a = nI i) : nX11_isIn a (-1) (nI n - 1) = some 1 := by
  unfold nX11_isIn
  rw [show nI n - (1 : Int32) = nJ n from rfl]
  rcases h with e | ⟨i, hi, e⟩
  · rw [e, if_neg (Int32.not_lt.mpr (Int32.le_refl _)), if_neg (Int32.not_lt.mpr (show (-1 : Int32) ≤ nJ n from by rw [← nJ_0]; exact (nJ_le (by omega) (by omega)).mpr (Nat.zero_le _)))]
  · rw [e, ← nJ_s i, if_neg (Int32.not_lt.mpr (show (-1 : Int32) ≤ nJ (i + 1) from by rw [← nJ_0]; exact (nJ_le (by omega) (by omega)).mpr (Nat.zero_le _))), if_neg (Int32.not_lt.mpr (show nJ (i + 1) ≤ nJ n from (nJ_le (by omega) (by omega)).mpr (by omega)))]
theorem m_outM {a : Int32} {n : Nat} (hn : n < 2147483647) (h : a ≠ -1) (hno : nIx a n) : nX11_isIn a (-1) (nI n - 1) = some 0 := by
  unfold nX11_isIn
  rw [show nI n - (1 : Int32) = nJ n from rfl]
  by_cases c : (-1 : Int32) ≤ a
  · rw [if_neg (Int32.not_lt.mpr c), if_pos (Int32.not_le.mp (fun e => ?_))]
    have h0 : ¬ a < 0 := fun q => h (by
      rw [Int32.le_iff_toInt_le] at c
      rw [Int32.lt_iff_toInt_lt] at q
      apply Int32.toInt.inj
      have e1 : (-1 : Int32).toInt = -1 := rfl
      have e2 : (0 : Int32).toInt = 0 := rfl
      rw [e1] at c ⊢
      rw [e2] at q
      omega)
    rcases hno with q | q
    · exact h0 q
    · have e1 : nI n ≤ nJ n := Int32.le_trans q.2 e
      rw [← nJ_s n, nJ_le (by omega) (by omega)] at e1
      omega
  · rw [if_pos (Int32.not_le.mp c)]
theorem s_40 (a : Nat → Int32) (hv : Iv g) : ∃ r, nS_40 a g = some r ∧ Iv r := by
  obtain ⟨S, hc, hm⟩ := hv
  obtain ⟨hO, ⟨hP, hE, hC0, hL, h6, hG⟩, ⟨hR, hH, hz⟩, hT, hWr, hFl, hB⟩ := id hc
  have h5 := hO.1
  have hN := hR.2.1
  unfold nS_40
  by_cases hok : a 1 = -1 ∨ ∃ i, i < S.2.1.1 ∧ a 1 = nI i
  · obtain ⟨h1, b, B, w, f1, b1, b2⟩ := e_gatherBunches hO hP hR (a 2)
    obtain ⟨d1, d2⟩ := gbR_le S.2.1.1 (Nat.le_refl _) b1
    refine st_q (S := S) (L := nL_bunch (a 1) (a 2)) (M := nX11_bunch (a 1) (a 2)) (cd := 0) (an := if a 1 = -1 then nI b else nJ (B (a 1).toNatClampNeg)) hc hm ?_ ?_
    · refine cQ_ls (X := nX10_bunch (a 1) (a 2)) (h := h1) ?_ (fr_le k389_Q f1)
      have hj : jX10_bunch_10 (a 1) (a 2) g = some (.inl (if a 1 = -1 then nI b else nJ (B (a 1).toNatClampNeg)), h1) := by
        unfold jX10_bunch_10
        rw [w, Option.bind_some]
        by_cases c : a 1 = -1
        · rw [if_pos c, if_pos c]
        · rcases hok with e | ⟨i, hi, e⟩
          · exact absurd e c
          · rw [if_neg c, if_neg c, e, e_bunchOf (by omega), Option.bind_some, nI_cl (by omega), b2 i hi]
      unfold nX10_bunch
      by_cases c : a 1 = -1
      · rw [if_pos c, hj]
      · rcases hok with e | ⟨i, hi, e⟩
        · exact absurd e c
        · rw [if_neg c, show nX10_needRow (a 1) g = some (.inl ()) by rw [e]; exact c_needRow hR hi, Option.bind_some, zel_i, hj]
    · intro h hm2
      obtain ⟨⟨hM, hF, hNm, hBx⟩, ⟨hR2, hH2⟩, hT2, hW2, hF2⟩ := id hm2
      have hMz := mP_sc (sc_42 h 0) hM
      have hRz := mR_sc (sc_42 h 0) hR2
      have k1 : ∃ o : Int32 × zS, wh (wX11_bunch_34 (a 1) (a 2)) ((0 : Int32), zi h 42 0 0) = some o ∧ ∃ b' B', gbR (adj S.1 S.2.1.2.1 (a 2)) S.2.1.1 S.2.1.1 b' B' ∧ o.1 = (if a 1 = -1 then nI b' else nJ (B' (a 1).toNatClampNeg)) ∧ bnS S.2.1.1 (zi h 42 0 0) B' o.2 := by
        refine wh_up (fun i (t : Int32 × zS) => t.1 = nI i ∧ bnS i (zi h 42 0 0) (fun _ => 0) t.2) (fun o : Int32 × zS => ∃ b' B', gbR (adj S.1 S.2.1.2.1 (a 2)) S.2.1.1 S.2.1.1 b' B' ∧ o.1 = (if a 1 = -1 then nI b' else nJ (B' (a 1).toNatClampNeg)) ∧ bnS S.2.1.1 (zi h 42 0 0) B' o.2) S.2.1.1 (fun i t hi hI => ?_) (fun t hI => ?_) ⟨rfl, fun x hx => by omega, sc_rfl _, zi_at _ _ _ _⟩
        · obtain ⟨j1, j2⟩ := hI
          have hRy := mR_sc j2.2.1 hRz
          unfold wX11_bunch_34
          rw [j1, hRy.1, if_neg (fun e => by rw [nN_le (by omega) (by omega)] at e; omega), zchk_t (zin_nI (by omega) (by omega)), nI_cl (by omega)]
          refine ⟨_, rfl, nI_s i, fun x hx => ?_, sc_tr j2.2.1 (sc_zi rfl _ _), by rw [zi_else _ _ (by omega)]; exact j2.2.2⟩
          by_cases e : x = i
          · rw [e, zi_at, nJ_0]
          · rw [zi_else _ _ (by omega)]; exact j2.1 x (by omega)
        · obtain ⟨j1, j2⟩ := hI
          have hRy := mR_sc j2.2.1 hRz
          unfold wX11_bunch_34
          rw [j1, hRy.1, if_pos (Int32.le_refl _)]
          obtain ⟨o, w1, e1⟩ := m_b60 (n := a 2) hO hMz hRz hok j2
          exact ⟨o, by rw [w1]; rfl, e1⟩
      obtain ⟨o, w1, b', B', e1, e2, e3⟩ := k1
      obtain ⟨u1, u2⟩ := gbR_uniq S.2.1.1 (Nat.le_refl _) b1 e1
      refine ⟨o.2, o.1, ?_, sc_tr (sc_42 h 0) e3.2.1, e3.2.2, fun _ => ?_⟩
      · unfold nX11_bunch jX11_bunch_20
        rw [hR2.1, m_inM (by omega) hok, Option.bind_some, if_neg n01, zi_at, if_pos (Int32.le_refl 0), w1]
      · rw [e2]
        by_cases c : a 1 = -1
        · rw [if_pos c, if_pos c, u1]
        · rcases hok with e | ⟨i, hi, e⟩
          · exact absurd e c
          · rw [if_neg c, if_neg c, e, nI_cl (by omega), u2 i hi]
  · have c : a 1 ≠ -1 := fun e => hok (Or.inl e)
    have hno : nIx (a 1) S.2.1.1 := by
      rcases ix2 (a 1) (n := S.2.1.1) (by omega) with ⟨i, hi, e1⟩ | q
      · exact (hok (Or.inr ⟨i, hi, e1⟩)).elim
      · exact q
    refine st_q (S := S) (L := nL_bunch (a 1) (a 2)) (M := nX11_bunch (a 1) (a 2)) (cd := 1) (an := 0) hc hm ?_ ?_
    · exact cQ_rs (X := nX10_bunch (a 1) (a 2)) (by unfold nX10_bunch; rw [if_neg c, c_needRowN hR hno, Option.bind_some, zel_e]) (fr_rfl _ _) (by rw [if_pos rfl]) n01
    · intro h hm2
      obtain ⟨⟨hM, hF, hNm, hBx⟩, ⟨hR2, hH2⟩, hT2, hW2, hF2⟩ := id hm2
      unfold nX11_bunch jX11_bunch_20
      rw [hR2.1, m_outM (by omega) c hno, Option.bind_some, if_pos rfl, zi_at, if_neg le1]
      exact mQ_err n01
end S11
