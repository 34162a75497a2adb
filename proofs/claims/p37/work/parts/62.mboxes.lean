
/-! ===== the reference's boxes: laid, or not ===== -/
section Na
variable {P : zPl} {g : zS} {D : Nat → Nat}
/-- sets a, b: something fails behind all their values -/
def anyQ (P : zPl) (A B x : Nat) : Prop := ∀ v, v < 5 → A.testBit v = true → ∀ w, w < 5 → B.testBit w = true → dfB P (625 * v + 125 * w + x) = true
/-- a truth that a loop keeps, as long as it holds -/
theorem wh_tru {R : Type} {step : Int32 × Int32 → Option ((Int32 × Int32) ⊕ R)} (Q : Nat → Prop) (out : Bool → R) (h1 : ∀ i, i < 5 → ∃ b : Bool, step (1, nI i) = some (.inl (bI b, nI (i + 1))) ∧ (b = true ↔ Q i)) (h3 : ∀ b : Bool, step (bI b, nI 5) = some (.inr (out b))) (h4 : ∀ i, i < 5 → step (0, nI i) = some (.inr (out false))) {b0 : Bool} : ∃ b, wh step (bI b0, (0 : Int32)) = some (out b) ∧ (b = true ↔ b0 = true ∧ ∀ i, i < 5 → Q i) := by
  obtain ⟨r, w, b, q1, q2⟩ := wh_post (step := step) (fun s => ∃ i b, i ≤ 5 ∧ s = (bI b, nI i) ∧ (b = true ↔ b0 = true ∧ ∀ j, j < i → Q j)) (fun s => 5 - s.2.toNatClampNeg) (fun r => ∃ b, r = out b ∧ (b = true ↔ b0 = true ∧ ∀ i, i < 5 → Q i)) (fun s hI => by
    obtain ⟨i, b, hi, rfl, hb⟩ := hI
    by_cases c : i = 5
    · subst c
      exact ⟨_, h3 b, b, rfl, hb⟩
    · cases b with
      | false =>
        refine ⟨_, h4 i (by omega), false, rfl, ⟨fun q => (by cases q), fun q => hb.mpr ⟨q.1, fun j hj => q.2 j (by omega)⟩⟩⟩
      | true =>
        obtain ⟨b, w, hq⟩ := h1 i (by omega)
        refine ⟨_, w, ⟨i + 1, b, by omega, rfl, ?_⟩, ?_⟩
        · rw [hq]
          have h5 := hb.mp rfl
          constructor
          · intro q
            refine ⟨h5.1, fun j hj => ?_⟩
            by_cases q2 : j = i
            · rw [q2]; exact q
            · exact h5.2 j (by omega)
          · intro q
            exact q.2 i (by omega)
        · show 5 - (nI (i + 1)).toNatClampNeg < 5 - (nI i).toNatClampNeg
          rw [nI_cl (by omega), nI_cl (by omega)]; omega) (bI b0, (0 : Int32)) ⟨0, b0, by omega, rfl, ⟨fun h => ⟨h, fun j hj => absurd hj (Nat.not_lt_zero j)⟩, fun h => h.1⟩⟩
  exact ⟨b, by rw [w, q1], q2⟩
theorem m_lastAny (hO : pOK P) (hM : mP P g) (hF : mF P g) {A B : Nat} (hA : A < 32) (hB : B < 32) : ∃ n, nX11_lastAny (nI A) (nI B) g = some (nI n) ∧ n < 126 ∧ (n = 0 → ∀ x, x < 125 → ¬ anyQ P A B x) := by
  have hp := hM.2.2.2.2.2.2.2
  have p0 : g.1 58 0 = nI 625 := hp 0 (by omega)
  have p1 : g.1 58 1 = nI 125 := hp 1 (by omega)
  have z0 : (0 : Int32).toNatClampNeg = 0 := rfl
  have z1 : (1 : Int32).toNatClampNeg = 1 := rfl
  have c5 : ∀ i, i < 5 → ¬ (5 : Int32) ≤ nI i := fun i hi => by rw [show (5 : Int32) = nI 5 from rfl, nN_le (by omega) (by omega)]; omega
  unfold nX11_lastAny
  have key : ∀ x, x < 125 → ∀ n, ∃ b : Bool, wh (wX11_lastAny_22 (nI A) (nI B) (nI n) (nI x) g) ((1 : Int32), (0 : Int32)) = some (.inl (nI (if b then n + 1 else n), nI (x + 1))) ∧ (b = true ↔ anyQ P A B x) := fun x hx n => by
    have ex : ∀ b : Bool, jX11_lastAny_113 (nI A) (nI B) (nI n) (nI x) (bI b) g = some (.inl (nI (if b then n + 1 else n), nI (x + 1))) := fun b => by
      unfold jX11_lastAny_113
      cases b with
      | false => rw [if_pos ((bI_0 false).mpr rfl), Int32.add_zero, nI_s]; rfl
      | true => rw [if_neg (fun q => absurd ((bI_0 true).mp q) (by decide)), nI_s, nI_s]; rfl
    obtain ⟨b, w, hb⟩ := wh_tru (step := wX11_lastAny_22 (nI A) (nI B) (nI n) (nI x) g) (fun v => A.testBit v = true → ∀ w, w < 5 → B.testBit w = true → dfB P (625 * v + 125 * w + x) = true) (fun b => Sum.inl (nI (if b then n + 1 else n), nI (x + 1))) (fun v hv => by
      dsimp only [wX11_lastAny_22]
      rw [if_neg (c5 v hv), if_neg (show ¬ (1 : Int32) = 0 by decide)]
      obtain ⟨b, w, hb⟩ := wh_tru (step := wX11_lastAny_36 (nI A) (nI B) (nI n) (nI x) (nI v) g) (fun w => A.testBit v = true → B.testBit w = true → dfB P (625 * v + 125 * w + x) = true) (fun b => Sum.inl (bI b, nI (v + 1))) (fun w hw => by
        dsimp only [wX11_lastAny_36]
        rw [if_neg (c5 w hw), if_neg (show ¬ (1 : Int32) = 0 by decide), m_has (by omega) (by omega), Option.bind_some, nI_s]
        cases hva : A.testBit v with
        | false =>
          rw [if_pos (show (if false = true then (1 : Int32) else 0) = 0 by decide)]
          exact ⟨true, rfl, ⟨fun _ q => (by cases q), fun _ => rfl⟩⟩
        | true =>
          rw [if_neg (show ¬ (if true = true then (1 : Int32) else 0) = 0 by decide), m_has (by omega) (by omega), Option.bind_some]
          cases hwb : B.testBit w with
          | false =>
            rw [if_pos (show (if false = true then (1 : Int32) else 0) = 0 by decide)]
            exact ⟨true, rfl, ⟨fun _ _ q => (by cases q), fun _ => rfl⟩⟩
          | true =>
            rw [if_neg (show ¬ (if true = true then (1 : Int32) else 0) = 0 by decide), zchk_t (show zin (0 : Int32) 5 = true from zin_nI (i := 0) (by omega) (by omega)), zchk_t (show zin (1 : Int32) 5 = true from zin_nI (i := 1) (by omega) (by omega)), z0, z1, p0, p1, nI_mul, nI_mul, nN_add, nN_add, m_doesFail hO hF (by omega), Option.bind_some]
            cases hd : dfB P (625 * v + 125 * w + x) with
            | false => exact ⟨false, rfl, ⟨fun q => (by cases q), fun q => absurd (q rfl rfl) (by decide)⟩⟩
            | true => exact ⟨true, rfl, ⟨fun _ _ _ => rfl, fun _ => rfl⟩⟩) (fun b => by
        dsimp only [wX11_lastAny_36]
        rw [if_pos (show (5 : Int32) ≤ nI 5 from Int32.le_refl _), nI_s]
        rfl) (fun w hw => by
        dsimp only [wX11_lastAny_36]
        rw [if_neg (c5 w hw), if_pos rfl, nI_s]
        rfl) (b0 := true)
      refine ⟨b, w, ?_⟩
      rw [hb]
      exact ⟨fun h ha w hw hb => h.2 w hw ha hb, fun h => ⟨rfl, fun w hw ha hb => h ha w hw hb⟩⟩) (fun b => by
      dsimp only [wX11_lastAny_22]
      rw [if_pos (show (5 : Int32) ≤ nI 5 from Int32.le_refl _), ex b]
      rfl) (fun v hv => by
      dsimp only [wX11_lastAny_22]
      rw [if_neg (c5 v hv), if_pos rfl]
      have := ex false
      rw [show (bI false) = 0 from rfl] at this
      rw [this]
      rfl) (b0 := true)
    refine ⟨b, w, ?_⟩
    rw [hb]
    exact ⟨fun h v hv ha => h.2 v hv ha, fun h => ⟨rfl, fun v hv ha => h v hv ha⟩⟩
  obtain ⟨r, w, n, q1, q2, q3⟩ := wh_up (step := wX11_lastAny_5 (nI A) (nI B) g) (fun x t => ∃ n, n ≤ x ∧ t = (nI n, nI x) ∧ (n = 0 → ∀ y, y < x → ¬ anyQ P A B y)) (fun r => ∃ n, r = nI n ∧ n < 126 ∧ (n = 0 → ∀ x, x < 125 → ¬ anyQ P A B x)) 125 (fun x t hx hI => by
    obtain ⟨n, hn, rfl, hz⟩ := hI
    obtain ⟨b, w, hb⟩ := key x hx n
    dsimp only [wX11_lastAny_5]
    rw [zchk_t (show zin (1 : Int32) 5 = true from zin_nI (i := 1) (by omega) (by omega)), z1, p1, if_neg (by rw [nN_le (by omega) (by omega)]; omega), w]
    refine ⟨_, rfl, _, ?_, rfl, fun h0 y hy => ?_⟩
    · split <;> omega
    · cases b with
      | true => simp at h0
      | false =>
        rw [if_neg (by decide)] at h0
        by_cases q : y = x
        · rw [q]; exact fun q2 => absurd (hb.mpr q2) (by decide)
        · exact hz h0 y (by omega)) (fun t hI => by
    obtain ⟨n, hn, rfl, hz⟩ := hI
    dsimp only [wX11_lastAny_5]
    rw [zchk_t (show zin (1 : Int32) 5 = true from zin_nI (i := 1) (by omega) (by omega)), z1, p1, if_pos (show nI 125 ≤ nI 125 from Int32.le_refl _)]
    exact ⟨_, rfl, n, rfl, by omega, hz⟩) (s := ((0 : Int32), (0 : Int32))) ⟨0, Nat.le_refl _, rfl, fun _ y hy => absurd hy (Nat.not_lt_zero y)⟩
  exact ⟨n, by rw [w, q1], q2, q3⟩
/-- the sets 0, 1, 2 of a box -/
def D3 (a b c : Nat) : Nat → Nat := fun f => if f = 0 then a else if f = 1 then b else c
theorem kx_D1 (a b c : Nat) : kx (D3 a b c) 1 = a * 1048576 := by
  show 0 + a * 1048576 = _
  omega
theorem kx_D2 (a b c : Nat) : kx (D3 a b c) 2 = a * 1048576 + b * 32768 := by
  show 0 + a * 1048576 + b * 32768 = _
  omega
theorem kx_D3 (a b c : Nat) : kx (D3 a b c) 3 = a * 1048576 + b * 32768 + c * 1024 := by
  show 0 + a * 1048576 + b * 32768 + c * 1024 = _
  omega
theorem m_laysBoxes (hO : pOK P) (hM : mP P g) (hF : mF P g) (hn : g.1 42 29 = -1 ∨ mL P 33554432 g) : ∃ h, nX11_laysBoxes g = some h ∧ lyB g h ∧ mL P 33554432 h := by
  have q0 := mq_le hO 0
  have q1 := mq_le hO 1
  have q2 := mq_le hO 2
  have e0 := mq32 hO 0
  have e1 := mq32 hO 1
  have e2 := mq32 hO 2
  have t0 := Nat.two_pow_pos (mq P 0)
  have t1 := Nat.two_pow_pos (mq P 1)
  have t2 := Nat.two_pow_pos (mq P 2)
  unfold nX11_laysBoxes
  by_cases hk : g.1 42 29 = -1
  · rw [if_pos hk]
    have hly : lyB g (zi g 42 29 0) := lyB_29 g 0
    have hM2 := mP_ly hly hM
    have hF2 := mF_ly hly hF
    have hm0 : mL P 0 (zi g 42 29 0) := ⟨zi_at _ _ _ _, fun Y hY => absurd hY (Nat.not_lt_zero Y)⟩
    generalize zi g 42 29 0 = z at *
    obtain ⟨h, w, a1, a2⟩ := wh_sets (P := P) (step := wX11_laysBoxes_16) (K := 0) (W := 1048576) (M := 2 ^ mq P 0) (Nat.two_pow_pos _) (fun s => lyB z s) (fun s => s) (fun a s h1 h2 hFs hms => by
      have hM3 := mP_ly hFs hM2
      have hF3 := mF_ly hFs hF2
      dsimp only [wX11_laysBoxes_16]
      rw [show (0 : Int32) = nI 0 from rfl, m_all hO hM3 (by omega : 0 < 5), Option.bind_some, if_neg (by rw [nN_lt (by omega) (by omega)]; omega)]
      obtain ⟨h, w, a1, a2⟩ := wh_sets (P := P) (step := wX11_laysBoxes_27 (nI a)) (K := a * 1048576) (W := 32768) (M := 2 ^ mq P 1) (Nat.two_pow_pos _) (fun t => lyB s t) (fun t => Sum.inl (nI (a + 1), t)) (fun b t b1 b2 hFt hmt => by
        have hM4 := mP_ly hFt hM3
        have hF4 := mF_ly hFt hF3
        dsimp only [wX11_laysBoxes_27]
        rw [show (1 : Int32) = nI 1 from rfl, m_all hO hM4 (by omega : 1 < 5), Option.bind_some, if_neg (by rw [nN_lt (by omega) (by omega)]; omega)]
        obtain ⟨n, wn, n1, n2⟩ := m_lastAny (A := a) (B := b) hO hM4 hF4 (by omega) (by omega)
        rw [wn, Option.bind_some]
        have hlt : ∀ i, i < 2 → D3 a b 0 i < 32 := fun i hi => by
          unfold D3
          split
          · omega
          · split <;> omega
        by_cases c0 : n = 0
        · rw [if_pos (by rw [c0]; rfl)]
          refine ⟨t, by rw [nN_add], hFt, mL_skip hmt (by omega) (fun Y y1 y2 => ?_)⟩
          cases hg : gK P Y with
          | false => rfl
          | true =>
            exfalso
            have hgm := (gK_gM hO Y).mp hg
            have hr := (kx_range (B := D3 a b 0) (f := 2) (Y := Y) (by omega) hlt).mp (by rw [kx_D2]; show _ ∧ _ < _ + 32768; omega)
            have r0 : bk Y 0 = a := hr.2 0 (by omega)
            have r1 : bk Y 1 = b := hr.2 1 (by omega)
            obtain ⟨c, hc⟩ := ne0_bit (hgm.1 2 (by omega)).1
            obtain ⟨d, hd⟩ := ne0_bit (hgm.1 3 (by omega)).1
            obtain ⟨e, he⟩ := ne0_bit (hgm.1 4 (by omega)).1
            have lc := big_bit (n := 5) (bk_lt Y 2) hc
            have ld := big_bit (n := 5) (bk_lt Y 3) hd
            have le := big_bit (n := 5) (bk_lt Y 4) he
            refine n2 c0 (25 * c + 5 * d + e) (by omega) (fun v _ hv w _ hw => ?_)
            have h9 := hgm.2.1 (fun f => if f = 0 then v else if f = 1 then w else if f = 2 then c else if f = 3 then d else e) (fun f _ hf => by
              have hcf : f = 0 ∨ f = 1 ∨ f = 2 ∨ f = 3 ∨ f = 4 := by omega
              rcases hcf with rfl | rfl | rfl | rfl | rfl
              · rw [r0]; exact hv
              · rw [r1]; exact hw
              · exact hc
              · exact hd
              · exact he)
            rw [fno_5] at h9
            have e9 : 625 * v + 125 * w + (25 * c + 5 * d + e) = 625 * v + 125 * w + 25 * c + 5 * d + e := by omega
            rw [e9]
            exact h9
        · rw [if_neg (fun q => c0 ((nN_eq0 (by omega)).mp q))]
          obtain ⟨h, w, a1, a2⟩ := wh_sets (P := P) (step := wX11_laysBoxes_50 (nI a) (nI b)) (K := a * 1048576 + b * 32768) (W := 1024) (M := 2 ^ mq P 2) (Nat.two_pow_pos _) (fun u => lyB t u) (fun u => Sum.inl (nI (b + 1), u)) (fun c u c1 c2 hFu hmu => by
            have hM5 := mP_ly hFu hM4
            have hF5 := mF_ly hFu hF4
            dsimp only [wX11_laysBoxes_50]
            rw [show (2 : Int32) = nI 2 from rfl, m_all hO hM5 (by omega : 2 < 5), Option.bind_some, if_neg (by rw [nN_lt (by omega) (by omega)]; omega)]
            obtain ⟨h, w, l1, l2⟩ := m_laysBoxes_ (D := D3 a b c) hO hM5 hF5 (fun i hi => by
              have hci : i = 0 ∨ i = 1 ∨ i = 2 := by omega
              rcases hci with rfl | rfl | rfl
              · exact ⟨show a ≠ 0 by omega, h2⟩
              · exact ⟨show b ≠ 0 by omega, b2⟩
              · exact ⟨show c ≠ 0 by omega, c2⟩) (by rw [kx_D3]; exact hmu)
            have e : nX11_laysBoxes_ (nI a) (nI b) (nI c) u = some h := w
            rw [e, Option.bind_some, nI_s]
            refine ⟨h, rfl, lyB_tr hFu l1, ?_⟩
            rw [kx_D3] at l2
            rw [Nat.add_mul, Nat.one_mul, ← Nat.add_assoc]
            exact l2) (fun u hFu => by
            dsimp only [wX11_laysBoxes_50]
            rw [show (2 : Int32) = nI 2 from rfl, m_all hO (mP_ly hFu hM4) (by omega : 2 < 5), Option.bind_some, if_pos (by rw [nN_lt (by omega) (by omega)]; omega), nI_s]
            rfl) (s := t) (lyB_rfl t) (by
            have h0 := mL_set (g := t) (D := D3 a b 0) (f := 2) (S := 0) hO (by omega) hlt (by omega) (Or.inl rfl) (by rw [Nat.zero_mul, Nat.add_zero, kx_D2]; exact hmt)
            rw [Nat.zero_add, kx_D2] at h0
            exact h0)
          have w' : wh (wX11_laysBoxes_50 (nI a) (nI b)) (nI 1, t) = some (Sum.inl (nI (b + 1), h)) := w
          rw [w']
          refine ⟨h, rfl, lyB_tr hFt a1, ?_⟩
          have h0 := mL_end (g := h) (D := D3 a b 0) (f := 2) hO (by omega) hlt (by rw [kx_D2]; exact a2)
          rw [kx_D2] at h0
          rw [Nat.add_mul, Nat.one_mul, ← Nat.add_assoc]
          exact h0) (fun t hFt => by
        dsimp only [wX11_laysBoxes_27]
        rw [show (1 : Int32) = nI 1 from rfl, m_all hO (mP_ly hFt hM3) (by omega : 1 < 5), Option.bind_some, if_pos (by rw [nN_lt (by omega) (by omega)]; omega), nN_add]
        rfl) (s := s) (lyB_rfl s) (by
        have h0 := mL_set (g := s) (D := D3 a 0 0) (f := 1) (S := 0) hO (by omega) (fun i hi => by
          rw [show i = 0 by omega]
          exact (show a < 32 by omega)) (by omega) (Or.inl rfl) (by rw [Nat.zero_mul, Nat.add_zero, kx_D1, ← Nat.zero_add (a * 1048576)]; exact hms)
        rw [Nat.zero_add, kx_D1] at h0
        exact h0)
      have e1' : (1 : Int32) = nI 1 := rfl
      rw [e1'] at w ⊢
      rw [w]
      refine ⟨h, rfl, lyB_tr hFs a1, ?_⟩
      have h0 := mL_end (g := h) (D := D3 a 0 0) (f := 1) hO (by omega) (fun i hi => by
        rw [show i = 0 by omega]
        exact (show a < 32 by omega)) (by rw [kx_D1]; exact a2)
      rw [kx_D1] at h0
      rw [Nat.zero_add, Nat.add_mul, Nat.one_mul]
      exact h0) (fun s hFs => by
      dsimp only [wX11_laysBoxes_16]
      rw [show (0 : Int32) = nI 0 from rfl, m_all hO (mP_ly hFs hM2) (by omega : 0 < 5), Option.bind_some, if_pos (by rw [nN_lt (by omega) (by omega)]; omega)]
      rfl) (s := z) (lyB_rfl z) (by
      have h0 := mL_set (g := z) (D := fun _ => 0) (f := 0) (S := 0) hO (by omega) (fun i hi => absurd hi (Nat.not_lt_zero i)) (by omega) (Or.inl rfl) hm0
      exact h0)
    rw [w]
    refine ⟨h, rfl, lyB_tr hly a1, ?_⟩
    have h0 := mL_end (g := h) (D := fun _ => 0) (f := 0) hO (by omega) (fun i hi => absurd hi (Nat.not_lt_zero i)) a2
    exact h0
  · rw [if_neg hk]
    exact ⟨g, rfl, lyB_rfl g, hn.resolve_left hk⟩
end Na
