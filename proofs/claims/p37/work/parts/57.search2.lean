
/-! ===== the class's search, all fields ===== -/
section Sf
variable {P : zPl} {g : zS} {B : Nat → Nat}
theorem sKp_z {f : Nat} {g : zS} {S : Nat} {v2 : Int64} : sKp f g (zl (zi g 28 f (nI S)) 29 (f + 1) v2) := ⟨fz_fr (fr_tr (fr_zi rfl _ _ _) (fr_zl rfl _ _ _)), fun i hi => by
  show (zi g 28 f (nI S)).1 28 i = _
  rw [zi_else _ _ (fun e => absurd e.2 (by omega))], fun k hk => by
  rw [zl_else _ _ (fun e => absurd e.2 (by omega))]; rfl, fun k _ => by
  rw [zl_else _ _ (fun e => absurd e.1 (by decide))]; rfl, by
  show (zi g 28 f (nI S)).1 26 4 = _
  rw [zi_cell _ _ (by decide)]⟩
theorem e_searchBehind (hO : pOK P) {f : Nat} (hf : f + 1 < pn P) {rc : Int32 → zS → Option zS} (hrc : ∀ (C : Nat → Nat) (g : zS), sPr P C (f + 1) g → ∃ h, rc (nI (f + 1)) g = some h ∧ sKp (f + 1) g h ∧ lF P (kx C (f + 1) + 32 ^ (5 - (f + 1))) h) (hS : sPr P B f g) (hW : cW P B f g) : ∃ h, nX0_searchBehind rc (nI f) (nI (usB P B f)) g = some h ∧ sKp f g h ∧ lF P (kx B f + 32 ^ (5 - f)) h := by
  have h5 := hO.1
  obtain ⟨s1, s2, s3, s4, s5, s6⟩ := hS
  have hq5 : ∀ i, i < pn P → pq P i ≤ 5 := fun i hi => (hO.2.1 i hi).2.1
  have hul := usB_lt P B f
  have hu32 : usB P B f < 32 := Nat.lt_of_lt_of_le hul (Nat.pow_le_pow_right (n := 2) (by omega) (hq5 f (by omega)))
  have hB32 : ∀ i, i < f → B i < 32 := fun i hi => Nat.lt_of_lt_of_le (s3 i hi).2.2 (Nat.pow_le_pow_right (n := 2) (by omega) (hq5 i (by omega)))
  have hpw : 32 ^ (5 - f) = 32 * 32 ^ (4 - f) := by
    rw [show 5 - f = (4 - f) + 1 by omega, Nat.pow_succ, Nat.mul_comm]
  have hkC : ∀ S, kx (upA B f S) (f + 1) = kx B f + S * 32 ^ (4 - f) := fun S => by
    rw [kx_s, kx_congr (C := B) f (fun i hi => by unfold upA; rw [if_neg (by omega)])]
    unfold upA
    rw [if_pos rfl]
  -- a number in the part of the set S
  have hY : ∀ S, S < 32 → ∀ Y, kx B f + S * 32 ^ (4 - f) ≤ Y → Y < kx B f + (S + 1) * 32 ^ (4 - f) → (∀ i, i < f → bk Y i = B i) ∧ bk Y f = S := fun S hS32 Y h1 h2 => by
    have hr := (kx_range (B := upA B f S) (f := f + 1) (Y := Y) (by omega) (fun i hi => by
      unfold upA
      by_cases q : i = f
      · rw [if_pos q]; exact hS32
      · rw [if_neg q]; exact hB32 i (by omega))).mp (by
      rw [hkC, show 5 - (f + 1) = 4 - f by omega]
      rw [Nat.add_mul, Nat.one_mul] at h2
      omega)
    refine ⟨fun i hi => ?_, ?_⟩
    · rw [hr.2 i (by omega)]
      unfold upA
      rw [if_neg (by omega)]
    · rw [hr.2 f (by omega)]
      unfold upA
      rw [if_pos rfl]
  have hsk : ∀ S, S < 32 → ∀ k : zS, (S = 0 ∨ ¬ (∀ v, S.testBit v = true → (usB P B f).testBit v = true) ∨ ¬ cld P (upA B f S) f) → lF P (kx B f + S * 32 ^ (4 - f)) k → lF P (kx B f + (S + 1) * 32 ^ (4 - f)) k := fun S hS32 k hno hk => by
    refine lF_skip hk (Nat.add_le_add_left (Nat.mul_le_mul_right _ (Nat.le_succ S)) _) (fun Y h1 h2 => ?_)
    cases hg : gK P Y with
    | false => rfl
    | true =>
      exfalso
      obtain ⟨y1, y2⟩ := hY S hS32 Y h1 h2
      have y3 := (gK_t.mp hg).2.2
      rcases hno with q | q | q
      · exact (y3.1 f (by omega)).1 (by rw [y2, q])
      · exact q (fun v hv => gB_use hO (by omega) y1 y3 (by rw [y2]; exact hv))
      · refine q ((cld_congr (fun i hi => ?_)).mp (gB_cld hO (by omega) y3))
        unfold upA
        by_cases q2 : i = f
        · rw [if_pos q2, q2, y2]
        · rw [if_neg q2, y1 i (by omega)]
  unfold nX0_searchBehind
  refine wh_up (fun j (s : Int32 × zS) => s.1 = nI (j + 1) ∧ sKp f g s.2 ∧ cW P B f s.2 ∧ lF P (kx B f + (j + 1) * 32 ^ (4 - f)) s.2) _ (usB P B f) (fun j s hj hI => ?_) (fun s hI => ?_) ⟨rfl, ⟨⟨fun _ _ => ⟨rfl, rfl⟩, id, Nat.le_refl _⟩, fun _ _ => rfl, fun _ _ => rfl, fun _ _ => rfl, rfl⟩, hW, ?_⟩
  · obtain ⟨i1, i2, i3, i4⟩ := hI
    obtain ⟨t1, t2⟩ := s
    dsimp only at i1 i2 i3 i4
    have hS32 : j + 1 < 32 := by omega
    have hP2 := cP_fz (K := kBx) ⟨rfl, rfl, rfl, rfl, rfl, rfl, rfl⟩ i2.1 s1
    have hE2 := cE_fz (K := kBx) rfl i2.1 s2
    dsimp only [wX0_searchBehind_2]
    rw [i1, if_neg (by rw [nN_lt (by omega) (by omega)]; omega), nI_m1, nI_xor, nI_and, nI_s]
    have hle : (j + 1) &&& (usB P B f ^^^ 4294967295) ≤ j + 1 := Nat.and_le_left
    by_cases hsub : (j + 1) &&& (usB P B f ^^^ 4294967295) = 0
    · rw [if_pos (by rw [hsub]; rfl)]
      have hS2 := (sub_not hS32).mp hsub
      have hSq : j + 1 < 2 ^ pq P f := by omega
      have eC : upA B f (j + 1) f = j + 1 := by unfold upA; rw [if_pos rfl]
      have eB : ∀ i, i < f → B i = upA B f (j + 1) i := fun i hi => by unfold upA; rw [if_neg (by omega)]
      have hWC : ∀ {k : zS}, cW P B f k → cW P (upA B f (j + 1)) f k := fun hk v hv x hx => by
        rw [← owP_congr eB]; exact hk v hv x hx
      have hcl := e_isClosed (g := t2) (B := upA B f (j + 1)) hO hP2 (by omega : f < pn P) (hWC i3) (by rw [eC]; exact hSq)
      rw [eC] at hcl
      rw [hcl, Option.bind_some]
      by_cases hcd : cld P (upA B f (j + 1)) f
      · rw [dB_t.mpr hcd, if_pos rfl, if_neg (show ¬ (1 : Int32) = 0 by decide), zchk_t (zin_nI (by omega) (by omega)), nI_cl (by omega)]
        have hz : fr (fun c => c == 28) t2 (zi t2 28 f (nI (j + 1))) := fr_zi rfl _ _ _
        rw [e_joined hO (cP_fr (K := fun c => c == 28) ⟨rfl, rfl, rfl, rfl, rfl, rfl, rfl⟩ hz hP2) (by omega : f < pn P), Option.bind_some, nI_s f, zchk_t (zin_nI (by omega) (by omega)), nI_cl (by omega)]
        have hjn : ∀ x, x < 64 → (fb (jnN (zi t2 28 f (nI (j + 1))) f (j + 1) (pq P f)) x = true ↔ opP P (upA B f (j + 1)) (f + 1) x) := fun x hx => by
          have h := jn_bit (g := zi t2 28 f (nI (j + 1))) (B := upA B f (j + 1)) (f := f) (hWC i3) (by rw [eC]; exact hSq) hx
          rw [eC] at h
          exact h
        generalize jnN (zi t2 28 f (nI (j + 1))) f (j + 1) (pq P f) = v2 at hjn
        have hk0 : sKp f t2 (zl (zi t2 28 f (nI (j + 1))) 29 (f + 1) v2) := sKp_z
        have hPr : sPr P (upA B f (j + 1)) (f + 1) (zl (zi t2 28 f (nI (j + 1))) 29 (f + 1) v2) := by
          refine ⟨cP_fz (K := kBx) ⟨rfl, rfl, rfl, rfl, rfl, rfl, rfl⟩ hk0.1 hP2, cE_fz (K := kBx) rfl hk0.1 hE2, fun i hi => ?_, fun x hx => ?_, fun i hi => ?_, ?_⟩
          · by_cases q : i = f
            · rw [q, eC]
              exact ⟨zi_at _ _ _ _, by omega, hSq⟩
            · rw [← eB i (by omega), hk0.2.1 i (by omega), i2.2.1 i (by omega)]
              exact s3 i (by omega)
          · rw [zl_at]; exact hjn x hx
          · by_cases q : i = f
            · rw [q]
              exact hWC (k := zl (zi t2 28 f (nI (j + 1))) 29 (f + 1) v2) (fun v hv x hx => by
                rw [zl_else _ _ (fun e => absurd e.1 (by decide))]; exact i3 v hv x hx)
            · have h1 : cW P B i (zl (zi t2 28 f (nI (j + 1))) 29 (f + 1) v2) := cW_kp (hq5 i (by omega)) (sKp_tr i2 hk0) (by omega) (s5 i (by omega))
              intro v hv x hx
              rw [← owP_congr (B := B) (fun k hk => eB k (by omega))]
              exact h1 v hv x hx
          · rw [hkC]
            refine lF_cells (g := t2) ?_ ?_ rfl i4
            · show (zi t2 28 f (nI (j + 1))).1 26 3 = _
              rw [zi_cell _ _ (by decide)]
            · show (zi t2 28 f (nI (j + 1))).1 27 = _
              rw [zi_cell _ _ (by decide)]
        obtain ⟨h, w, r1, r2⟩ := hrc _ _ hPr
        rw [w, Option.bind_some, zchk_t (decide_eq_true (show t2.2.2.2 ≤ h.2.2.2 from Nat.le_trans hk0.1.2.2 r1.1.2.2))]
        have hk1 := sKp_tr hk0 (sKp_le (Nat.le_succ f) r1)
        refine ⟨_, rfl, rfl, sKp_tr i2 hk1, fun v hv x hx => ?_, ?_⟩
        · have hqf := hq5 f (by omega)
          show fb (h.2.1 30 (f * 5 + v)) x = true ↔ _
          rw [r1.2.2.2.1 (f * 5 + v) (by omega), zl_else _ _ (fun e => absurd e.1 (by decide))]
          exact i3 v hv x hx
        · rw [hkC, show 5 - (f + 1) = 4 - f by omega] at r2
          rw [Nat.add_mul (j + 1), Nat.one_mul, ← Nat.add_assoc]
          exact r2
      · rw [dB_f.mpr hcd, if_neg (show ¬ false = true by decide), if_pos rfl]
        exact ⟨_, rfl, rfl, i2, i3, hsk (j + 1) hS32 t2 (Or.inr (Or.inr hcd)) i4⟩
    · rw [if_neg (fun q => hsub ((nN_eq0 (by omega)).mp q))]
      exact ⟨_, rfl, rfl, i2, i3, hsk (j + 1) hS32 t2 (Or.inr (Or.inl (fun q => hsub ((sub_not hS32).mpr q)))) i4⟩
  · obtain ⟨i1, i2, i3, i4⟩ := hI
    obtain ⟨t1, t2⟩ := s
    dsimp only at i1 i2 i3 i4
    dsimp only [wX0_searchBehind_2]
    rw [i1, if_pos (by rw [nN_lt (by omega) (by omega)]; omega)]
    refine ⟨_, rfl, i2, ?_⟩
    have go : ∀ d, usB P B f + 1 + d ≤ 32 → lF P (kx B f + (usB P B f + 1 + d) * 32 ^ (4 - f)) t2 := by
      intro d
      induction d with
      | zero => intro _; exact i4
      | succ d ih =>
        intro hd
        refine hsk (usB P B f + 1 + d) (by omega) t2 (Or.inr (Or.inl (fun q => ?_))) (ih (by omega))
        have h1 : usB P B f + 1 + d ≤ usB P B f := by
          have e : (usB P B f + 1 + d) &&& usB P B f = usB P B f + 1 + d := by
            apply Nat.eq_of_testBit_eq
            intro v
            rw [Nat.testBit_and]
            cases h2 : (usB P B f + 1 + d).testBit v with
            | true => rw [q v h2]; rfl
            | false => rfl
          rw [← e]
          exact Nat.and_le_right
        omega
    have h9 := go (32 - (usB P B f + 1)) (by omega)
    rw [show usB P B f + 1 + (32 - (usB P B f + 1)) = 32 by omega, ← hpw] at h9
    exact h9
  · exact hsk 0 (by omega) g (Or.inl rfl) (by rw [Nat.zero_mul, Nat.add_zero]; exact s6)
theorem e_rSearch (hO : pOK P) (hb : ∀ X, X ≤ 33554432 → cnt (gK P) X ≤ 1048576) : ∀ d n f (B : Nat → Nat) (g : zS), f + d + 1 = pn P → d + 1 ≤ n → sPr P B f g → ∃ h, rSearch n (nI f) g = some h ∧ sKp f g h ∧ lF P (kx B f + 32 ^ (5 - f)) h := by
  intro d
  induction d with
  | zero =>
    intro n f B g hf hn hS
    obtain ⟨m, rfl⟩ := Nat.exists_eq_succ_of_ne_zero (by omega : n ≠ 0)
    exact e_searchLast hO (by omega) hb hS
  | succ d ih =>
    intro n f B g hf hn hS
    have h5 := hO.1
    obtain ⟨m, rfl⟩ := Nat.exists_eq_succ_of_ne_zero (by omega : n ≠ 0)
    have hS' := hS
    obtain ⟨s1, s2, s3, s4, s5, s6⟩ := hS
    show ∃ h, nX0_search (nX0_searchBehind (rSearch m)) (nI f) g = some h ∧ _
    unfold nX0_search
    obtain ⟨h, w, m1, m2, m3⟩ := e_meetValues hO s1 s2 (by omega : f < pn P) s4
    have hP2 := cP_fr (K := k30) ⟨rfl, rfl, rfl, rfl, rfl, rfl, rfl⟩ m1 s1
    have hk : sKp f g h := ⟨k30_Bx m1, fun i _ => by rw [(m1.1 28 rfl).1], fun k _ => by rw [(m1.1 29 rfl).2], fun k hk => m3 k (Or.inl hk), by rw [(m1.1 26 rfl).1]⟩
    rw [s1.1, if_pos (by rw [nN_lt (by omega) (by omega)]; omega), w, Option.bind_some, zchk_t (decide_eq_true m1.2.2)]
    dsimp only
    rw [hP2.1, show nI (pn P) - (1 : Int32) = nI (pn P - 1) by rw [show (1 : Int32) = nI 1 from rfl, nI_sub (by omega)], if_neg (by rw [nN_eq (by omega) (by omega)]; omega)]
    have hPr : sPr P B f h := ⟨hP2, cE_fr (K := k30) rfl m1 s2, fun i hi => by rw [(m1.1 28 rfl).1]; exact s3 i hi, fun x hx => by rw [(m1.1 29 rfl).2]; exact s4 x hx, fun i hi => cW_kp ((hO.2.1 i (by omega)).2.1) hk hi (s5 i hi), lF_cells (by rw [(m1.1 26 rfl).1]) (by rw [(m1.1 27 rfl).1]) m1.2.2 s6⟩
    obtain ⟨r, wr, r1, r2⟩ := e_searchBehind hO (by omega) (fun C g hC => ih m (f + 1) C g (by omega) (by omega) hC) hPr m2
    rw [wr, Option.bind_some, zchk_t (decide_eq_true r1.1.2.2)]
    exact ⟨r, rfl, sKp_tr hk r1, r2⟩
/-- the boxes of the class: not known, or known -/
def bKn (P : zPl) (g : zS) : Prop := (g.1 26 4 = 0 ∧ 64 ≤ g.2.2.2 ∧ g.2.2.2 ≤ 2097152) ∨ (g.1 26 4 = 1 ∧ lF P 33554432 g)
theorem lF_0 (h1 : 64 ≤ g.2.2.2) (h2 : g.2.2.2 ≤ 2097152) (h : g.1 26 3 = 0) : lF P 0 g := ⟨h, Nat.zero_le _, h1, h2, fun Y hY => absurd hY (Nat.not_lt_zero Y)⟩
theorem fb_top {x : Nat} (hx : x < 64) : fb (-9223372036854775808) x = true ↔ x = 63 := by
  have hd : ∀ x, x < 64 → (fb (-9223372036854775808) x = true ↔ x = 63) := by decide
  exact hd x hx
theorem gK_0 (h : pn P = 0) (X : Nat) : gK P X = false := by
  cases q : gK P X with
  | false => rfl
  | true => exact absurd h (gK_t.mp q).1
theorem e_size (hO : pOK P) (hP : cP P g) (hE : cE P g) (hb : ∀ X, X ≤ 33554432 → cnt (gK P) X ≤ 1048576) (hK : bKn P g) : ∃ h, nX0_size g = some (nI (cnt (gK P) 33554432), h) ∧ fz kBx g h ∧ h.1 26 4 = 1 ∧ lF P 33554432 h := by
  have h5 := hO.1
  unfold nX0_size
  rcases hK with ⟨k1, k2, k3⟩ | ⟨k1, k2⟩
  · rw [if_pos k1, zchk_t (show zin (0 : Int32) 6 = true from zin_nI (i := 0) (by omega) (by omega))]
    have hz : fz kBx g (zl (zi g 26 3 0) 29 (0 : Int32).toNatClampNeg (-9223372036854775808)) := fz_fr (fr_tr (fr_zi rfl _ _ _) (fr_zl rfl _ _ _))
    have hP2 := cP_fz (K := kBx) ⟨rfl, rfl, rfl, rfl, rfl, rfl, rfl⟩ hz hP
    have hE2 := cE_fz (K := kBx) rfl hz hE
    have hF : lF P 0 (zl (zi g 26 3 0) 29 (0 : Int32).toNatClampNeg (-9223372036854775808)) := lF_0 k2 k3 (zi_at g 26 3 0)
    have hO29 : cO P (fun _ => 0) 0 (zl (zi g 26 3 0) 29 (0 : Int32).toNatClampNeg (-9223372036854775808)) := fun x hx => by
      rw [show (0 : Int32).toNatClampNeg = 0 from rfl, zl_at, opP_0 hx]
      exact fb_top hx
    have hlen : (zl (zi g 26 3 0) 29 (0 : Int32).toNatClampNeg (-9223372036854775808)).2.2.2 = g.2.2.2 := rfl
    generalize zl (zi g 26 3 0) 29 (0 : Int32).toNatClampNeg (-9223372036854775808) = z at *
    have key : ∃ h, rSearch 12 0 z = some h ∧ fz kBx z h ∧ lF P 33554432 h := by
      by_cases h0 : pn P = 0
      · refine ⟨z, ?_, ⟨fun _ _ => ⟨rfl, rfl⟩, id, Nat.le_refl _⟩, lF_skip hF (by omega) (fun Y _ _ => gK_0 h0 Y)⟩
        show nX0_search (nX0_searchBehind (rSearch 11)) 0 z = some z
        unfold nX0_search
        rw [hP2.1, h0, if_neg (by decide)]
      · obtain ⟨h, w, r1, r2⟩ := e_rSearch hO hb (pn P - 1) 12 0 (fun _ => 0) z (by omega) (by omega) ⟨hP2, hE2, fun i hi => absurd hi (Nat.not_lt_zero i), hO29, fun i hi => absurd hi (Nat.not_lt_zero i), hF⟩
        exact ⟨h, w, r1.1, by
          have e : kx (fun _ => 0) 0 + 32 ^ (5 - 0) = 33554432 := rfl
          rw [e] at r2
          exact r2⟩
    obtain ⟨h, w, r1, r2⟩ := key
    rw [w, Option.bind_some, zchk_t (decide_eq_true (by rw [← hlen]; exact r1.2.2))]
    refine ⟨zi h 26 4 1, ?_, fz_tr hz (fz_tr r1 (fz_fr (fr_zi rfl _ _ _))), zi_at _ _ _ _, lF_cells (zi_else _ _ (by decide)) (zi_cell _ _ (by decide)) rfl r2⟩
    rw [zi_else _ _ (show ¬ (26 = 26 ∧ 3 = 4) by decide), r2.1]
  · rw [if_neg (by rw [k1]; decide), k2.1]
    exact ⟨g, rfl, ⟨fun _ _ => ⟨rfl, rfl⟩, id, Nat.le_refl _⟩, k1, k2⟩
end Sf
