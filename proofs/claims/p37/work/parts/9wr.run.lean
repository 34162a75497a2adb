
/-! ===== the reference's box calls run, however many boxes there are (nothing is said here of their answers) ===== -/
section Ru
variable {S : zSt} {g h k : zS} {P : zPl} {N M : Nat} {r : Nat → Nat}
/-- a call of the reference comes to something, and what holds goes on to hold -/
def mU (M : zS → Option (Int32 × zS)) (S : zSt) : Prop := ∀ h, rI S h → ∃ k an, M h = some (an, k) ∧ fr kRf h k ∧ rI S k
/-- how many boxes the reference's list holds -/
noncomputable def nM (P : zPl) : Nat := min (nB P) 30000
theorem nM_le (P : zPl) : nM P ≤ 30000 := Nat.min_le_right _ _
theorem mL_nM (p : mL P 33554432 g) : g.1 42 29 = nI (nM P) := p.1
theorem u_has (a b : Int32) : ∃ c, nX11_has a b = some c := by
  unfold nX11_has
  split
  · exact ⟨_, rfl⟩
  · exact ⟨_, rfl⟩
theorem u_inBox (hM : mP P g) {x i : Nat} (hx : x < 2147483648) (hi : i < 30000) : ∃ c, nX11_isInBox (nI x) (nI i) g = some c := by
  unfold nX11_isInBox
  obtain ⟨r, w, _⟩ := wh_post (step := wX11_isInBox_2 (nI x) (nI i) g) (fun s : Int32 => ∃ f, f ≤ 5 ∧ s = nI f) (fun s => 5 - s.toNatClampNeg) (fun _ => True) (fun s ⟨f, hf, a1⟩ => by
    unfold wX11_isInBox_2
    rw [a1]
    by_cases q : f = 5
    · rw [q, if_pos (show (5 : Int32) ≤ nI 5 by decide)]
      exact ⟨_, rfl, trivial⟩
    · obtain ⟨c, wc⟩ := u_has (g.1 59 (nI (5 * i + f)).toNatClampNeg) (nI (vo x f))
      rw [if_neg (show ¬ (5 : Int32) ≤ nI f from fun e => by have := (nN_le (a := 5) (by omega) (by omega)).mp e; omega), show (5 : Int32) * nI i = nI (5 * i) from nI_mul 5 i, nN_add, zchk_t (zin_nI (by omega) (by omega)), m_valueOf hM hx (by omega), Option.bind_some, wc, Option.bind_some]
      by_cases q2 : c = 0
      · rw [if_pos q2]
        exact ⟨_, rfl, trivial⟩
      · rw [if_neg q2]
        refine ⟨_, rfl, ⟨f + 1, by omega, nI_s f⟩, ?_⟩
        rw [nI_s, nI_cl (by omega), nI_cl (by omega)]
        omega) 0 ⟨0, by omega, rfl⟩
  exact ⟨r, w⟩
theorem u_enters (hO : pOK P) (hM : mP P g) {i : Nat} (hi : i < 30000) : ∃ c, nX11_enters (nI i) g = some c := by
  have h5 := hO.1
  unfold nX11_enters
  obtain ⟨r, w, _⟩ := wh_post (step := wX11_enters_4 (nI i) g) (fun s : Int32 × Int32 => ∃ f, f ≤ pn P ∧ s.2 = nI f) (fun s => 5 - s.2.toNatClampNeg) (fun _ => True) (fun s ⟨f, hf, a1⟩ => by
    unfold wX11_enters_4
    rw [a1, hM.1]
    by_cases q : f = pn P
    · rw [q, if_pos (Int32.le_refl _)]
      exact ⟨_, rfl, trivial⟩
    · rw [if_neg (fun e => by rw [nN_le (by omega) (by omega)] at e; omega), show (5 : Int32) * nI i = nI (5 * i) from nI_mul 5 i, nN_add, zchk_t (zin_nI (by omega) (by omega)), m_all hO hM (by omega), Option.bind_some]
      have me : 5 - (nI f + (1 : Int32)).toNatClampNeg < 5 - (nI f).toNatClampNeg := by
        rw [nI_s, nI_cl (by omega), nI_cl (by omega)]
        omega
      split
      · exact ⟨_, rfl, ⟨f + 1, by omega, nI_s f⟩, me⟩
      · exact ⟨_, rfl, ⟨f + 1, by omega, nI_s f⟩, me⟩) (0, 0) ⟨0, by omega, rfl⟩
  exact ⟨r, w⟩
theorem u_within47 (hO : pOK P) (hM : mP P g) (hR : mR P N r g) {j : Nat} (hj : j < N) (hn : g.1 42 29 = nI M) (h3 : M ≤ 30000) (x : Int32) : ∃ o, wh (wX11_within_47 (nI j) x g) (x, (0 : Int32)) = some (o, g) := by
  have hc := (hR.2.2 j hj).2
  have hlt := (vo_fno (a := fun f => rv (r j) f - 1) hO.1 (fun e he => by have := hc.2.1 e he; have := (hO.2.1 e he).2.1; omega)).1
  obtain ⟨⟨o, g'⟩, w, e⟩ := wh_post (step := wX11_within_47 (nI j) x g) (fun s : Int32 × Int32 => ∃ i, i ≤ M ∧ s.2 = nI i) (fun s => M - s.2.toNatClampNeg) (fun o => o.2 = g) (fun s ⟨i, hi, a1⟩ => by
    unfold wX11_within_47
    rw [a1, hn]
    by_cases q : i = M
    · rw [q, if_pos (Int32.le_refl _)]
      exact ⟨_, rfl, rfl⟩
    · rw [if_neg (fun e => by rw [nN_le (by omega) (by omega)] at e; omega)]
      by_cases cx : x < 0
      · rw [if_pos cx]
        exact ⟨_, rfl, rfl⟩
      · obtain ⟨c, wc⟩ := u_inBox hM (x := fno (fun f => rv (r j) f - 1) (pn P)) (by omega) (show i < 30000 by omega)
        have me : M - (nI i + (1 : Int32)).toNatClampNeg < M - (nI i).toNatClampNeg := by
          rw [nI_s, nI_cl (by omega), nI_cl (by omega)]
          omega
        rw [if_neg cx, m_formOf hO hM hR hj, Option.bind_some, wc, Option.bind_some]
        split
        · exact ⟨_, rfl, ⟨i + 1, by omega, nI_s i⟩, me⟩
        · split
          · exact ⟨_, rfl, rfl⟩
          · exact ⟨_, rfl, ⟨i + 1, by omega, nI_s i⟩, me⟩) (x, 0) ⟨0, Nat.zero_le _, rfl⟩
  dsimp only at e
  exact ⟨o, by rw [w, e]⟩
theorem uU_within (hO : pOK S.1) (x y : Int32) : mU (nX11_within x y) S := fun h hm => by
  obtain ⟨⟨hM, hF, hNm, hBx⟩, ⟨hR, hH⟩, hT2, hW2, hF2⟩ := id hm
  have fin : ∀ s : Int32, ¬ s ≤ 0 → ∃ k an, jX11_within_26 x y s h = some (an, k) ∧ fr kRf h k ∧ rI S k := fun s hs => by
    unfold jX11_within_26
    rw [zi_at, if_neg hs]
    exact ⟨_, _, rfl, sc_fr (sc_42 h s), rI_42 s hm⟩
  unfold nX11_within
  rcases ix2 x (n := S.2.1.1) (by have := hR.2.1; omega) with ⟨i, hi, e1⟩ | hno
  · rw [e1, m_isRow hR hi, Option.bind_some, if_neg n01, m_missing hO hM hR hi, Option.bind_some]
    by_cases q : nI (rmis (S.2.1.2.1 i) (pn S.1)) = 0
    · rw [if_pos q]
      obtain ⟨k, wk, b1, b2, b3, b4⟩ := m_boxes hO (rI_42 0 hm)
      obtain ⟨o, wo⟩ := u_within47 hO b2.1.1 b2.2.1.1 hi (mL_nM b3) (nM_le _) y
      unfold jX11_within_26
      rw [zi_at, if_pos (Int32.le_refl 0), wk, Option.bind_some, wo]
      exact ⟨_, _, rfl, ly_R (mw_tr (mw_zi (Or.inl ⟨rfl, Or.inl rfl⟩) _ _) b1), b2⟩
    · rw [if_neg q, ← e1]
      exact fin 2 (by decide)
  · rw [m_isRowN hR hno, Option.bind_some, if_pos rfl]
    exact fin 1 (by decide)
theorem uU_boxes (hO : pOK S.1) : mU nX11_boxes S := fun h hm => by
  obtain ⟨k, wk, b1, b2, b3, b4⟩ := m_boxes hO (rI_42 0 hm)
  unfold nX11_boxes
  rw [wk, Option.bind_some]
  exact ⟨_, _, rfl, ly_R (mw_tr (mw_zi (Or.inl ⟨rfl, Or.inl rfl⟩) _ _) b1), b2⟩
theorem uU_box (hO : pOK S.1) (x y : Int32) : mU (nX11_box x y) S := fun h hm => by
  have h5 := hO.1
  obtain ⟨k, wk, b1, b2, b3, b4⟩ := m_boxes hO hm
  have hM := b2.1.1
  have h3 := nM_le S.1
  have fin : ∀ s : Int32, ¬ s ≤ 0 → ∃ k' an, jX11_box_42 x y s k = some (an, k') ∧ fr kRf h k' ∧ rI S k' := fun s hs => by
    unfold jX11_box_42
    rw [zi_at, if_neg hs]
    exact ⟨_, _, rfl, ly_42 b1 s, rI_42 s b2⟩
  unfold nX11_box
  rw [wk, Option.bind_some, mL_nM b3]
  rcases ix2 x (n := nM S.1) (by omega) with ⟨i, hi, e1⟩ | hno
  · have tail : ∀ v3 : Int32, (v3 ≠ 0 → y = -1 ∨ ∃ f, f < pn S.1 ∧ y = nI f) → ∃ k' an, (if v3 = 0 then (jX11_box_42 x y (2 : Int32) k) else (jX11_box_42 x y (0 : Int32) k)) = some (an, k') ∧ fr kRf h k' ∧ rI S k' := fun v3 hv => by
      by_cases q : v3 = 0
      · rw [if_pos q]
        exact fin 2 (by decide)
      · rw [if_neg q]
        unfold jX11_box_42
        rw [zi_at, if_pos (Int32.le_refl 0)]
        by_cases q2 : y = -1
        · obtain ⟨c, wc⟩ := u_enters hO (mP_sc (sc_42 k 0) hM) (show i < 30000 by omega)
          rw [if_pos q2, e1, wc, Option.bind_some]
          exact ⟨_, _, rfl, ly_42 b1 0, rI_42 0 b2⟩
        · rcases hv q with e | ⟨f, hf, e⟩
          · exact absurd e q2
          · rw [if_neg q2, e1, e, show (5 : Int32) * nI i = nI (5 * i) from nI_mul 5 i, nN_add, zchk_t (zin_nI (by omega) (by omega))]
            exact ⟨_, _, rfl, ly_42 b1 0, rI_42 0 b2⟩
    rw [e1, m_in hi (by omega), Option.bind_some, if_neg n01, hM.1, ← e1]
    by_cases q : y = -1
    · rw [m_inM (by omega) (Or.inl q), Option.bind_some]
      exact tail 1 (fun _ => Or.inl q)
    · rcases ix2 y (n := pn S.1) (by omega) with ⟨f, hf, e2⟩ | hno2
      · rw [m_inM (by omega) (Or.inr ⟨f, hf, e2⟩), Option.bind_some]
        exact tail 1 (fun _ => Or.inr ⟨f, hf, e2⟩)
      · rw [m_outM (by omega) q hno2, Option.bind_some]
        exact tail 0 (fun e => absurd rfl e)
  · rw [m_out (by omega) hno, Option.bind_some, if_pos rfl]
    exact fin 1 (by decide)
theorem u_from75 (hM : mP P g) {i s : Nat} (hi : i < 30000) (hs : s < 64) (a2 : Int32) : ∃ b, (b = a2 ∨ b = nI s) ∧ wh (wX11_from_75 (nI i) a2 (nI s) g) ((1 : Int32), (0 : Int32)) = some (.inl (b, nI (s + 1))) := by
  have j133 : ∀ c : Int32, ∃ b, (b = a2 ∨ b = nI s) ∧ jX11_from_133 (nI i) a2 (nI s) c g = some (.inl (b, nI (s + 1))) := fun c => by
    unfold jX11_from_133
    rw [nI_s]
    split
    · exact ⟨_, Or.inl rfl, rfl⟩
    · exact ⟨_, Or.inr rfl, rfl⟩
  obtain ⟨o, w, b, hb, e⟩ := wh_post (step := wX11_from_75 (nI i) a2 (nI s) g) (fun t : Int32 × Int32 => ∃ x, x ≤ 3125 ∧ t.2 = nI x) (fun t => 3125 - t.2.toNatClampNeg) (fun o => ∃ b, (b = a2 ∨ b = nI s) ∧ o = .inl (b, nI (s + 1))) (fun t ⟨x, hx, a1⟩ => by
    unfold wX11_from_75
    rw [a1]
    obtain ⟨b, hb, wb⟩ := j133 t.1
    by_cases q : x = 3125
    · rw [q, if_pos (show (3125 : Int32) ≤ nI 3125 from Int32.le_refl _), wb]
      exact ⟨_, rfl, b, hb, rfl⟩
    · rw [if_neg (show ¬ (3125 : Int32) ≤ nI x from fun e => by have := (nN_le (a := 3125) (by omega) (by omega)).mp e; omega)]
      by_cases q2 : t.1 = 0
      · rw [if_pos q2, wb]
        exact ⟨_, rfl, b, hb, rfl⟩
      · obtain ⟨c, wc⟩ := u_inBox hM (x := x) (by omega) hi
        have me : 3125 - (nI x + (1 : Int32)).toNatClampNeg < 3125 - (nI x).toNatClampNeg := by
          rw [nI_s, nI_cl (by omega), nI_cl (by omega)]
          omega
        rw [if_neg q2, zchk_t (zin_nI (by omega) (by omega))]
        split
        · exact ⟨_, rfl, ⟨x + 1, by omega, nI_s x⟩, me⟩
        · rw [wc, Option.bind_some]
          split
          · exact ⟨_, rfl, ⟨x + 1, by omega, nI_s x⟩, me⟩
          · rw [zchk_t (zin_nI (by omega) (by omega))]
            split
            · exact ⟨_, rfl, ⟨x + 1, by omega, nI_s x⟩, me⟩
            · exact ⟨_, rfl, ⟨x + 1, by omega, nI_s x⟩, me⟩) (1, 0) ⟨0, Nat.zero_le _, rfl⟩
  exact ⟨b, hb, by rw [w, e]⟩
theorem u_from40 (hO : pOK P) (hM : mP P g) {i : Nat} (hi : i < 30000) : ∃ o, wh (wX11_from_40 (nI i) g) ((-1 : Int32), (1 : Int32)) = some (o, g) := by
  have hm6 := hO.2.2.2.1
  have hp : 2 ^ pm P ≤ 64 := Nat.pow_le_pow_right (n := 2) (by omega) hm6
  have hp1 : 1 ≤ 2 ^ pm P := Nat.one_le_two_pow
  obtain ⟨⟨o, g'⟩, w, e⟩ := wh_post (step := wX11_from_40 (nI i) g) (fun t : Int32 × Int32 => ∃ s, s ≤ 2 ^ pm P ∧ t.2 = nI s ∧ (t.1 = -1 ∨ ∃ b, b < 64 ∧ t.1 = nI b)) (fun t => 64 - t.2.toNatClampNeg) (fun o => o.2 = g) (fun t ⟨s, hs, a1, a2⟩ => by
    unfold wX11_from_40
    rw [a1, hM.2.1, nI_shl (by omega)]
    by_cases q : s = 2 ^ pm P
    · rw [q, if_pos (Int32.le_refl _)]
      exact ⟨_, rfl, rfl⟩
    · have hs64 : s < 64 := by omega
      rw [if_neg (fun e => by rw [nN_le (by omega) (by omega)] at e; omega)]
      obtain ⟨b, hb, wb⟩ := u_from75 hM hi hs64 t.1
      have me : ∀ z : Int32, z = nI (s + 1) → 64 - z.toNatClampNeg < 64 - (nI s).toNatClampNeg := fun z hz => by
        rw [hz, nI_cl (by omega), nI_cl (by omega)]
        omega
      have nx : ∃ s', s' ≤ 2 ^ pm P ∧ nI (s + 1) = nI s' ∧ (b = -1 ∨ ∃ b2, b2 < 64 ∧ b = nI b2) := by
        refine ⟨s + 1, by omega, rfl, ?_⟩
        rcases hb with e | e
        · rw [e]; exact a2
        · exact Or.inr ⟨s, hs64, e⟩
      by_cases q2 : t.1 = -1
      · rw [if_pos q2, wb]
        exact ⟨_, rfl, nx, me _ rfl⟩
      · rw [if_neg q2]
        rcases a2 with e | ⟨b2, hb2, e⟩
        · exact absurd e q2
        · rw [m_bits hs64, Option.bind_some, e, m_bits hb2, Option.bind_some, ← e]
          split
          · rw [wb]
            exact ⟨_, rfl, nx, me _ rfl⟩
          · exact ⟨_, rfl, ⟨s + 1, by omega, nI_s s, Or.inr ⟨b2, hb2, e⟩⟩, me _ (nI_s s)⟩) (-1, 1) ⟨1, hp1, rfl, Or.inl rfl⟩
  dsimp only at e
  exact ⟨o, by rw [w, e]⟩
theorem uU_from (hO : pOK S.1) (x : Int32) : mU (nX11_from x) S := fun h hm => by
  obtain ⟨k, wk, b1, b2, b3, b4⟩ := m_boxes hO hm
  have h3 := nM_le S.1
  unfold nX11_from jX11_from_24
  rw [wk, Option.bind_some, mL_nM b3]
  rcases ix2 x (n := nM S.1) (by omega) with ⟨i, hi, e1⟩ | hno
  · obtain ⟨o, wo⟩ := u_from40 hO (mP_sc (sc_42 k 0) b2.1.1) (show i < 30000 by omega)
    rw [e1, m_in hi (by omega), Option.bind_some, if_neg n01, zi_at, if_pos (Int32.le_refl 0), wo]
    exact ⟨_, _, rfl, ly_42 b1 0, rI_42 0 b2⟩
  · rw [m_out (by omega) hno, Option.bind_some, if_pos rfl, zi_at, if_neg le1]
    exact ⟨_, _, rfl, ly_42 b1 1, rI_42 1 b2⟩
def wU63 (c _k : Nat) : Prop := c = 63
theorem wU63_R (a : mw wU63 g h) : fr kRf g h := mw_fr (fun c k q => by unfold wU63 at q; omega) a
theorem rI_u63 (hm : rI S g) (a : mw wU63 g h) : rI S h := by
  obtain ⟨p1, ⟨p2, p3⟩, p4, p5, p6⟩ := hm
  exact ⟨mPn_mw (fun c k q => by unfold wU63 at q; omega) a p1, ⟨mR_mw (fun c k q => by unfold wU63 at q; omega) a p2, mH_mw (fun c k q => by unfold wU63 at q; omega) a p3⟩, mTp_mw (fun c k q => by unfold wU63 at q; omega) a p4, mWr_mw (fun c k q => by unfold wU63 at q; omega) a p5, by rw [a.1 42 5 (by unfold wU63; omega)]; exact p6⟩
theorem u_blame96 (hO : pOK P) (hM : mP P g) {i : Nat} (hi : i < 30000) (a1 n : Int32) : ∃ s', wh (wX11_blame_96 a1 n (nI i)) ((0 : Int32), g) = some (.inl (n, nI (i + 1), s')) ∧ mw wU63 g s' := by
  have h5 := hO.1
  obtain ⟨o, w, s', e, q⟩ := wh_post (step := wX11_blame_96 a1 n (nI i)) (fun t : Int32 × zS => ∃ f, f ≤ pn P ∧ t.1 = nI f ∧ mw wU63 g t.2) (fun t => 5 - t.1.toNatClampNeg) (fun o => ∃ s', o = .inl (n, nI (i + 1), s') ∧ mw wU63 g s') (fun t ⟨f, hf, b1, b2⟩ => by
    have hM2 : mP P t.2 := mP_mw (fun c k q => by unfold wU63 at q; omega) b2 hM
    unfold wX11_blame_96
    rw [b1, hM2.1]
    by_cases q : f = pn P
    · rw [q, if_pos (Int32.le_refl _), nI_s]
      exact ⟨_, rfl, _, rfl, b2⟩
    · obtain ⟨c, wc⟩ := u_enters hO hM2 hi
      obtain ⟨d, wd2⟩ := u_has c (nI f)
      have me : 5 - (nI f + (1 : Int32)).toNatClampNeg < 5 - (nI f).toNatClampNeg := by
        rw [nI_s, nI_cl (by omega), nI_cl (by omega)]
        omega
      rw [if_neg (fun e => by rw [nN_le (by omega) (by omega)] at e; omega), zchk_t (zin_nI (by omega) (by omega)), wc, Option.bind_some, wd2, Option.bind_some]
      split
      · rw [zchk_t (zin_nI (by omega) (by omega))]
        exact ⟨_, rfl, ⟨f + 1, by omega, nI_s f, mw_tr b2 (mw_zi (W := wU63) rfl _ _)⟩, me⟩
      · rw [zchk_t (zin_nI (by omega) (by omega))]
        exact ⟨_, rfl, ⟨f + 1, by omega, nI_s f, mw_tr b2 (mw_zi (W := wU63) rfl _ _)⟩, me⟩) (0, g) ⟨0, by omega, rfl, mw_rfl _⟩
  exact ⟨s', by rw [w, e], q⟩
theorem u_blame150 (hO : pOK P) (hM : mP P g) (a2 : Int32) : ∃ o, wh (wX11_blame_150 a2 g) ((0 : Int32), (1 : Int32)) = some (o, g) := by
  have h5 := hO.1
  obtain ⟨⟨o, g'⟩, w, e⟩ := wh_post (step := wX11_blame_150 a2 g) (fun t : Int32 × Int32 => ∃ b f, b < 5 ∧ f ≤ 5 ∧ t.1 = nI b ∧ t.2 = nI f) (fun t => 5 - t.2.toNatClampNeg) (fun o => o.2 = g) (fun t ⟨b, f, hb, hf, b1, b2⟩ => by
    unfold wX11_blame_150
    rw [b1, b2, hM.1]
    by_cases q : pn P ≤ f
    · rw [if_pos ((nN_le (by omega) (by omega)).mpr q)]
      split
      · exact ⟨_, rfl, rfl⟩
      · split
        · exact ⟨_, rfl, rfl⟩
        · rw [zchk_t (zin_nI (by omega) (by omega))]
          split
          · exact ⟨_, rfl, rfl⟩
          · exact ⟨_, rfl, rfl⟩
    · have me : 5 - (nI f + (1 : Int32)).toNatClampNeg < 5 - (nI f).toNatClampNeg := by
        rw [nI_s, nI_cl (by omega), nI_cl (by omega)]
        omega
      have zf : zin (nI f) 5 = true := zin_nI (by omega) (by omega)
      have zb : zin (nI b) 5 = true := zin_nI (by omega) (by omega)
      rw [if_neg (fun e => q ((nN_le (by omega) (by omega)).mp e)), zchk_t zf, zchk_t zb]
      split
      · exact ⟨_, rfl, ⟨f, f + 1, by omega, by omega, rfl, nI_s f⟩, me⟩
      · rw [zchk_t zf, zchk_t zb]
        split
        · rw [zchk_t zf, zchk_t zb]
          split
          · exact ⟨_, rfl, ⟨b, f + 1, hb, by omega, rfl, nI_s f⟩, me⟩
          · exact ⟨_, rfl, ⟨f, f + 1, by omega, by omega, rfl, nI_s f⟩, me⟩
        · exact ⟨_, rfl, ⟨b, f + 1, hb, by omega, rfl, nI_s f⟩, me⟩) (0, 1) ⟨0, 1, by omega, by omega, rfl, rfl⟩
  dsimp only at e
  exact ⟨o, by rw [w, e]⟩
theorem u_blame66 (hO : pOK P) (hM : mP P g) (hR : mR P N r g) {j : Nat} (hj : j < N) (hn : g.1 42 29 = nI M) (h3 : M ≤ 30000) (a2 : Int32) : ∃ o k, wh (wX11_blame_66 (nI j)) (a2, (0 : Int32), g) = some (o, k) ∧ mw wU63 g k := by
  have hc := (hR.2.2 j hj).2
  have hlt := (vo_fno (a := fun f => rv (r j) f - 1) hO.1 (fun e he => by have := hc.2.1 e he; have := (hO.2.1 e he).2.1; omega)).1
  obtain ⟨⟨o, k⟩, w, e⟩ := wh_post (step := wX11_blame_66 (nI j)) (fun t : Int32 × Int32 × zS => ∃ i, i ≤ M ∧ t.2.1 = nI i ∧ mw wU63 g t.2.2) (fun t => M - t.2.1.toNatClampNeg) (fun o => mw wU63 g o.2) (fun t ⟨i, hi, b1, b2⟩ => by
    have hM2 : mP P t.2.2 := mP_mw (fun c k q => by unfold wU63 at q; omega) b2 hM
    have hR2 : mR P N r t.2.2 := mR_mw (fun c k q => by unfold wU63 at q; omega) b2 hR
    have hn2 : t.2.2.1 42 29 = nI M := by rw [b2.1 42 29 (by unfold wU63; omega)]; exact hn
    unfold wX11_blame_66
    rw [b1, hn2]
    by_cases q : i = M
    · obtain ⟨o, wo⟩ := u_blame150 hO hM2 t.1
      rw [q, if_pos (Int32.le_refl _), wo]
      exact ⟨_, rfl, b2⟩
    · obtain ⟨c, wc⟩ := u_inBox hM2 (x := fno (fun f => rv (r j) f - 1) (pn P)) (by omega) (show i < 30000 by omega)
      have me : ∀ z : Int32, z = nI (i + 1) → M - z.toNatClampNeg < M - (nI i).toNatClampNeg := fun z hz => by
        rw [hz, nI_cl (by omega), nI_cl (by omega)]
        omega
      rw [if_neg (fun e => by rw [nN_le (by omega) (by omega)] at e; omega), m_formOf hO hM2 hR2 hj, Option.bind_some, wc, Option.bind_some]
      by_cases q2 : c = 0
      · rw [if_pos q2]
        exact ⟨_, rfl, ⟨i + 1, by omega, nI_s i, b2⟩, me _ (nI_s i)⟩
      · obtain ⟨s', ws, e3⟩ := u_blame96 hO hM2 (show i < 30000 by omega) (nI j) (t.1 + (1 : Int32))
        rw [if_neg q2, ws]
        exact ⟨_, rfl, ⟨i + 1, by omega, rfl, mw_tr b2 e3⟩, me _ rfl⟩) (a2, 0, g) ⟨0, Nat.zero_le _, rfl, mw_rfl _⟩
  exact ⟨o, k, w, e⟩
theorem u_blame46 (hO : pOK P) (hM : mP P g) (hR : mR P N r g) {j : Nat} (hj : j < N) (hn : g.1 42 29 = nI M) (h3 : M ≤ 30000) (a2 : Int32) : ∃ o k, wh (wX11_blame_46 (nI j) a2) ((0 : Int32), g) = some (o, k) ∧ mw wU63 g k := by
  obtain ⟨⟨o, k⟩, w, e⟩ := wh_post (step := wX11_blame_46 (nI j) a2) (fun t : Int32 × zS => ∃ i, i ≤ 5 ∧ t.1 = nI i ∧ mw wU63 g t.2) (fun t => 5 - t.1.toNatClampNeg) (fun o => mw wU63 g o.2) (fun t ⟨i, hi, b1, b2⟩ => by
    unfold wX11_blame_46
    rw [b1]
    by_cases q : i = 5
    · have hn2 : t.2.1 42 29 = nI M := by rw [b2.1 42 29 (by unfold wU63; omega)]; exact hn
      obtain ⟨o, k, wo, e⟩ := u_blame66 hO (mP_mw (fun c k q => by unfold wU63 at q; omega) b2 hM) (mR_mw (fun c k q => by unfold wU63 at q; omega) b2 hR) hj hn2 h3 a2
      rw [q, if_pos (show (5 : Int32) ≤ nI 5 from Int32.le_refl _), wo]
      exact ⟨_, rfl, mw_tr b2 e⟩
    · rw [if_neg (show ¬ (5 : Int32) ≤ nI i from fun e => by have := (nN_le (a := 5) (by omega) (by omega)).mp e; omega), zchk_t (zin_nI (by omega) (by omega))]
      refine ⟨_, rfl, ⟨i + 1, by omega, nI_s i, mw_tr b2 (mw_zi (W := wU63) rfl _ _)⟩, ?_⟩
      rw [nI_s, nI_cl (by omega), nI_cl (by omega)]
      omega) (0, g) ⟨0, by omega, rfl, mw_rfl _⟩
  exact ⟨o, k, w, e⟩
theorem uU_blame (hO : pOK S.1) (x : Int32) : mU (nX11_blame x) S := fun h hm => by
  obtain ⟨⟨hM, hF, hNm, hBx⟩, ⟨hR, hH⟩, hT2, hW2, hF2⟩ := id hm
  have fin : ∀ s : Int32, ¬ s ≤ 0 → ∃ k an, jX11_blame_26 x s h = some (an, k) ∧ fr kRf h k ∧ rI S k := fun s hs => by
    unfold jX11_blame_26
    rw [zi_at, if_neg hs]
    exact ⟨_, _, rfl, sc_fr (sc_42 h s), rI_42 s hm⟩
  unfold nX11_blame
  rcases ix2 x (n := S.2.1.1) (by have := hR.2.1; omega) with ⟨i, hi, e1⟩ | hno
  · rw [e1, m_isRow hR hi, Option.bind_some, if_neg n01, m_missing hO hM hR hi, Option.bind_some]
    by_cases q : nI (rmis (S.2.1.2.1 i) (pn S.1)) = 0
    · rw [if_pos q]
      obtain ⟨k, wk, b1, b2, b3, b4⟩ := m_boxes hO (rI_42 0 hm)
      obtain ⟨o, k2, wo, e⟩ := u_blame46 hO b2.1.1 b2.2.1.1 hi (mL_nM b3) (nM_le _) 0
      unfold jX11_blame_26
      rw [zi_at, if_pos (Int32.le_refl 0), wk, Option.bind_some, wo]
      exact ⟨_, _, rfl, fr_tr (ly_R (mw_tr (mw_zi (Or.inl ⟨rfl, Or.inl rfl⟩) _ _) b1)) (wU63_R e), rI_u63 b2 e⟩
    · rw [if_neg q, ← e1]
      exact fin 2 (by decide)
  · rw [m_isRowN hR hno, Option.bind_some, if_pos rfl]
    exact fin 1 (by decide)
theorem u_cover79 (hM : mP P g) (hn : g.1 42 29 = nI M) (h3 : M ≤ 30000) (a1 a2 a3 : Int32) {x : Nat} (hx : x < 2147483647) (b : Int32) : ∃ c, wh (wX11_cover_79 a1 a2 a3 (nI x) g) (b, (0 : Int32)) = some (.inl (c, nI (x + 1))) := by
  have j127 : ∀ c : Int32, ∃ d, jX11_cover_127 a1 a2 a3 (nI x) c g = some (.inl (d, nI (x + 1))) := fun c => by
    unfold jX11_cover_127
    rw [nI_s]
    split
    · exact ⟨_, rfl⟩
    · exact ⟨_, rfl⟩
  obtain ⟨o, w, c, e⟩ := wh_post (step := wX11_cover_79 a1 a2 a3 (nI x) g) (fun t : Int32 × Int32 => ∃ o, o ≤ M ∧ t.2 = nI o) (fun t => M - t.2.toNatClampNeg) (fun o => ∃ c, o = .inl (c, nI (x + 1))) (fun t ⟨o, ho, b1⟩ => by
    obtain ⟨d, wd2⟩ := j127 t.1
    unfold wX11_cover_79
    rw [b1, hn]
    by_cases q : o = M
    · rw [q, if_pos (Int32.le_refl _), wd2]
      exact ⟨_, rfl, _, rfl⟩
    · have me : M - (nI o + (1 : Int32)).toNatClampNeg < M - (nI o).toNatClampNeg := by
        rw [nI_s, nI_cl (by omega), nI_cl (by omega)]
        omega
      obtain ⟨c, wc⟩ := u_inBox hM (x := x) (by omega) (show o < 30000 by omega)
      rw [if_neg (fun e => by rw [nN_le (by omega) (by omega)] at e; omega), wd2]
      split
      · exact ⟨_, rfl, _, rfl⟩
      · split
        · exact ⟨_, rfl, _, rfl⟩
        · split
          · exact ⟨_, rfl, ⟨o + 1, by omega, nI_s o⟩, me⟩
          · rw [wc, Option.bind_some]
            split
            · exact ⟨_, rfl, ⟨o + 1, by omega, nI_s o⟩, me⟩
            · exact ⟨_, rfl, ⟨o + 1, by omega, nI_s o⟩, me⟩) (b, 0) ⟨0, Nat.zero_le _, rfl⟩
  exact ⟨c, by rw [w, e]⟩
theorem u_cover41 (hM : mP P g) (hn : g.1 42 29 = nI M) (h3 : M ≤ 30000) {i : Nat} (hi : i < 30000) (a2 : Int32) : ∃ o, wh (wX11_cover_41 (nI i) a2 g) ((0 : Int32), (0 : Int32)) = some (o, g) := by
  obtain ⟨⟨o, g'⟩, w, e⟩ := wh_post (step := wX11_cover_41 (nI i) a2 g) (fun t : Int32 × Int32 => ∃ x, x ≤ 3125 ∧ t.2 = nI x) (fun t => 3125 - t.2.toNatClampNeg) (fun o => o.2 = g) (fun t ⟨x, hx, b1⟩ => by
    unfold wX11_cover_41
    rw [b1]
    by_cases q : x = 3125
    · rw [q, if_pos (show (3125 : Int32) ≤ nI 3125 from Int32.le_refl _)]
      exact ⟨_, rfl, rfl⟩
    · obtain ⟨c, wc⟩ := u_inBox hM (x := x) (by omega) hi
      obtain ⟨c0, w0⟩ := u_cover79 hM hn h3 (nI i) a2 t.1 (show x < 2147483647 by omega) 0
      obtain ⟨c1, w1⟩ := u_cover79 hM hn h3 (nI i) a2 t.1 (show x < 2147483647 by omega) 1
      have me : 3125 - (nI (x + 1)).toNatClampNeg < 3125 - (nI x).toNatClampNeg := by
        rw [nI_cl (by omega), nI_cl (by omega)]
        omega
      rw [if_neg (show ¬ (3125 : Int32) ≤ nI x from fun e => by have := (nN_le (a := 3125) (by omega) (by omega)).mp e; omega), zchk_t (zin_nI (by omega) (by omega))]
      split
      · rw [w0]
        exact ⟨_, rfl, ⟨x + 1, by omega, rfl⟩, me⟩
      · rw [wc, Option.bind_some]
        split
        · rw [w0]
          exact ⟨_, rfl, ⟨x + 1, by omega, rfl⟩, me⟩
        · rw [w1]
          exact ⟨_, rfl, ⟨x + 1, by omega, rfl⟩, me⟩) (0, 0) ⟨0, Nat.zero_le _, rfl⟩
  dsimp only at e
  exact ⟨o, by rw [w, e]⟩
theorem uU_cover (hO : pOK S.1) (x y : Int32) : mU (nX11_cover x y) S := fun h hm => by
  obtain ⟨k, wk, b1, b2, b3, b4⟩ := m_boxes hO hm
  have h3 := nM_le S.1
  unfold nX11_cover jX11_cover_24
  rw [wk, Option.bind_some, mL_nM b3]
  rcases ix2 x (n := nM S.1) (by omega) with ⟨i, hi, e1⟩ | hno
  · obtain ⟨o, wo⟩ := u_cover41 (mP_sc (sc_42 k 0) b2.1.1) (M := nM S.1) (by rw [zi_else _ _ (by decide)]; exact mL_nM b3) h3 (show i < 30000 by omega) y
    rw [e1, m_in hi (by omega), Option.bind_some, if_neg n01, zi_at, if_pos (Int32.le_refl 0), wo]
    exact ⟨_, _, rfl, ly_42 b1 0, rI_42 0 b2⟩
  · rw [m_out (by omega) hno, Option.bind_some, if_pos rfl, zi_at, if_neg le1]
    exact ⟨_, _, rfl, ly_42 b1 1, rI_42 1 b2⟩
end Ru
