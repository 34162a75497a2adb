
/-! ===== steps: tell, copy, drop, undo ===== -/
section S12
variable {S S' : zSt} {g h k : zS} {P : zPl} {N K : Nat} {r : Nat → Nat} {hN : Nat → Nat} {hr : Nat → Nat → Nat}
/-- what the reference's memory changes -/
def wRm (c i : Nat) : Prop := c = 61 ∨ c = 62 ∨ (c = 42 ∧ i = 32)
theorem mH_idx {p i f : Nat} (h : i < 40) (hf : f < 5) : 200 * p + (5 * i + f) < 200 * (p + 1) := by omega
theorem m_rem80 (hO : pOK P) (hR : mR P N r g) (hH : mH P K hN hr g) (hK : K < 16) : ∃ k, wh (wX11_remembers_80 ) ((0 : Int32), g) = some k ∧ mH P (K + 1) (fun p => if p = K then N else hN p) (fun p => if p = K then r else hr p) k ∧ mw wRm g k := by
  have h5 := hO.1
  obtain ⟨r1, r2, r3⟩ := hR
  obtain ⟨k1, k2, k3⟩ := hH
  refine wh_up (fun i (s : Int32 × zS) => s.1 = nI i ∧ (∀ j, j < i → s.2.1 62 (200 * K + j) = g.1 55 j) ∧ (∀ j, j < 200 * K → s.2.1 62 j = g.1 62 j) ∧ mw (fun c _ => c = 62) g s.2) (fun k => mH P (K + 1) (fun p => if p = K then N else hN p) (fun p => if p = K then r else hr p) k ∧ mw wRm g k) 200 ?_ ?_ ⟨rfl, fun j hj => by omega, fun _ _ => rfl, mw_rfl _⟩
  · intro i s hi ⟨a1, a2, a3, a4⟩
    unfold wX11_remembers_80
    rw [a1, if_neg (show ¬ (200 : Int32) ≤ nI i from fun q => by have := (nN_le (a := 200) (by omega) (by omega)).mp q; omega), zchk_t (zin_nI (by omega) (by omega)), a4.1 42 32 (by omega), k1, show (200 : Int32) * nI K = nI (200 * K) from nI_mul 200 K, nN_add, zchk_t (zin_nI (by omega) (by omega)), nI_cl (by omega), nI_cl (by omega), a4.1 55 i (by omega), nI_s]
    refine ⟨_, rfl, rfl, fun j hj => ?_, fun j hj => ?_, mw_tr a4 (mw_zi (W := fun c _ => c = 62) rfl _ _)⟩
    · by_cases q : j = i
      · rw [q, zi_at]
      · rw [zi_else _ _ (by omega)]; exact a2 j (by omega)
    · rw [zi_else _ _ (by omega)]; exact a3 j hj
  · intro s ⟨a1, a2, a3, a4⟩
    unfold wX11_remembers_80
    rw [a1, if_pos (show (200 : Int32) ≤ nI 200 by decide), a4.1 42 32 (by omega), a4.1 42 18 (by omega), k1, r1, zchk_t (zin_nI (by omega) (by omega)), nI_cl (by omega), zi_else _ _ (by omega), a4.1 42 32 (by omega), k1, nI_s]
    refine ⟨_, rfl, ⟨zi_at _ _ _ _, by omega, fun p hp => ?_⟩, mw_tr (mw_le (fun c _ q => Or.inr (Or.inl q)) a4) (mw_tr (mw_zi (Or.inl rfl) _ _) (mw_zi (Or.inr (Or.inr ⟨rfl, rfl⟩)) _ _))⟩
    by_cases q : p = K
    · dsimp only
      rw [if_pos q, if_pos q, q]
      refine ⟨r2, by rw [zi_else _ _ (by omega), zi_at], fun i hi => ⟨fun f hf => ?_, (r3 i hi).2⟩⟩
      rw [zi_else _ _ (by omega), zi_else _ _ (by omega), a2 _ (by omega)]
      exact (r3 i hi).1 f hf
    · obtain ⟨p1, p2, p3⟩ := k3 p (by omega)
      dsimp only
      rw [if_neg q, if_neg q]
      refine ⟨p1, by rw [zi_else _ _ (by omega), zi_else _ _ (by omega), a4.1 61 p (by omega)]; exact p2, fun i hi => ⟨fun f hf => ?_, (p3 i hi).2⟩⟩
      rw [zi_else _ _ (by omega), zi_else _ _ (by omega), a3 _ (by omega)]
      exact (p3 i hi).1 f hf
theorem mH_congr {hN' : Nat → Nat} {hr' : Nat → Nat → Nat} (h1 : ∀ p, p < K → hN p = hN' p) (h2 : ∀ p, p < K → hr p = hr' p) (h : mH P K hN hr g) : mH P K hN' hr' g := ⟨h.1, h.2.1, fun p hp => by rw [← h1 p hp, ← h2 p hp]; exact h.2.2 p hp⟩
theorem m_remembers (hO : pOK P) (hR : mR P N r g) (hH : mH P K hN hr g) : ∃ k, nX11_remembers g = some k ∧ mH P (rmK K) (rmS K hN N) (rmS K hr r) k ∧ mw wRm g k := by
  have h5 := hO.1
  unfold nX11_remembers
  have hK := hH.2.1
  by_cases c : K = 16
  · subst c
    obtain ⟨k1, k2, k3⟩ := id hH
    rw [k1, if_pos (show nI 16 = (16 : Int32) from rfl)]
    refine wh_up (fun i (s : Int32 × zS) => s.1 = nI i ∧ (∀ j, s.2.1 62 j = if j < i then g.1 62 (j + 200) else g.1 62 j) ∧ mw (fun c _ => c = 62) g s.2) (fun k => mH P (rmK 16) (rmS 16 hN N) (rmS 16 hr r) k ∧ mw wRm g k) 3000 ?_ ?_ ⟨rfl, fun j => (if_neg (by omega)).symm, mw_rfl _⟩
    · intro i s hi ⟨a1, a2, a4⟩
      unfold wX11_remembers_11
      rw [a1, if_neg (show ¬ (3000 : Int32) ≤ nI i from fun q => by have := (nN_le (a := 3000) (by omega) (by omega)).mp q; omega), show nI i + (200 : Int32) = nI (i + 200) from nN_add i 200, zchk_t (zin_nI (by omega) (by omega)), zchk_t (zin_nI (by omega) (by omega)), nI_cl (by omega), nI_cl (by omega), a2 (i + 200), if_neg (by omega), nI_s]
      refine ⟨_, rfl, rfl, fun j => ?_, mw_tr a4 (mw_zi (W := fun c _ => c = 62) rfl _ _)⟩
      by_cases q : j = i
      · rw [q, zi_at, if_pos (by omega)]
      · rw [zi_else _ _ (by omega), a2 j]
        by_cases q2 : j < i
        · rw [if_pos q2, if_pos (by omega)]
        · rw [if_neg q2, if_neg (by omega)]
    · intro s ⟨a1, a2, a4⟩
      unfold wX11_remembers_11
      rw [a1, if_pos (show (3000 : Int32) ≤ nI 3000 by decide)]
      have key : ∃ k, wh (wX11_remembers_42 ) ((0 : Int32), s.2) = some k ∧ (mH P (rmK 16) (rmS 16 hN N) (rmS 16 hr r) k ∧ mw wRm g k) := by
        refine wh_up (fun i (t : Int32 × zS) => t.1 = nI i ∧ (∀ j, t.2.1 61 j = if j < i then g.1 61 (j + 1) else g.1 61 j) ∧ (∀ j, t.2.1 62 j = s.2.1 62 j) ∧ mw (fun c _ => c = 61 ∨ c = 62) g t.2) (fun k => mH P (rmK 16) (rmS 16 hN N) (rmS 16 hr r) k ∧ mw wRm g k) 15 ?_ ?_ ⟨rfl, fun j => by rw [if_neg (by omega)]; exact a4.1 61 j (by omega), fun _ => rfl, mw_le (fun c _ q => Or.inr q) a4⟩
        · intro i t hi ⟨b1, b2, b3, b4⟩
          unfold wX11_remembers_42
          rw [b1, if_neg (show ¬ (15 : Int32) ≤ nI i from fun q => by have := (nN_le (a := 15) (by omega) (by omega)).mp q; omega), nI_s, zchk_t (zin_nI (by omega) (by omega)), zchk_t (zin_nI (by omega) (by omega)), nI_cl (by omega), nI_cl (by omega), b2 (i + 1), if_neg (by omega)]
          refine ⟨_, rfl, rfl, fun j => ?_, fun j => by rw [zi_else _ _ (by omega)]; exact b3 j, mw_tr b4 (mw_zi (Or.inl rfl) _ _)⟩
          by_cases q : j = i
          · rw [q, zi_at, if_pos (by omega)]
          · rw [zi_else _ _ (by omega), b2 j]
            by_cases q2 : j < i
            · rw [if_pos q2, if_pos (by omega)]
            · rw [if_neg q2, if_neg (by omega)]
        · intro t ⟨b1, b2, b3, b4⟩
          unfold wX11_remembers_42
          rw [b1, if_pos (show (15 : Int32) ≤ nI 15 by decide), b4.1 42 32 (by omega), k1, show nI 16 - (1 : Int32) = nI 15 by decide]
          have b5 : mw wRm g (zi t.2 42 32 (nI 15)) := mw_tr (mw_le (fun c i q => by unfold wRm; omega) b4) (mw_zi (Or.inr (Or.inr ⟨rfl, rfl⟩)) _ _)
          have hR2 : mR P N r (zi t.2 42 32 (nI 15)) := mR_mw (fun c i q => by unfold wRm at q; omega) b5 hR
          have hH2 : mH P 15 (fun p => hN (p + 1)) (fun p => hr (p + 1)) (zi t.2 42 32 (nI 15)) := by
            refine ⟨zi_at _ _ _ _, by omega, fun p hp => ?_⟩
            obtain ⟨p1, p2, p3⟩ := k3 (p + 1) (by omega)
            refine ⟨p1, by rw [zi_else _ _ (by omega), b2 p, if_pos (by omega)]; exact p2, fun i hi => ⟨fun f hf => ?_, (p3 i hi).2⟩⟩
            have hi' : i < hN (p + 1) := hi
            rw [zi_else _ _ (by omega), b3, a2, if_pos (by omega), show 200 * p + (5 * i + f) + 200 = 200 * (p + 1) + (5 * i + f) by omega]
            exact (p3 i hi).1 f hf
          obtain ⟨k, w, c1, c2⟩ := m_rem80 hO hR2 hH2 (by omega)
          refine ⟨k, by rw [w]; rfl, mH_congr (fun p hp => ?_) (fun p hp => ?_) c1, mw_tr b5 c2⟩
          · show (if p = 15 then N else hN (p + 1)) = rmS 16 hN N p
            unfold rmS rmK
            rw [if_pos rfl, if_pos rfl]
            by_cases q : p = 15
            · rw [if_pos q, if_pos (by omega)]
            · rw [if_neg q, if_neg (by omega)]
          · show (if p = 15 then r else hr (p + 1)) = rmS 16 hr r p
            unfold rmS rmK
            rw [if_pos rfl, if_pos rfl]
            by_cases q : p = 15
            · rw [if_pos q, if_pos (by omega)]
            · rw [if_neg q, if_neg (by omega)]
      obtain ⟨k, w, e⟩ := key
      exact ⟨k, by rw [w]; rfl, e⟩
  · rw [hH.1, if_neg (show ¬ nI K = (16 : Int32) from fun q => c ((nN_eq (b := 16) (by omega) (by omega)).mp q))]
    obtain ⟨k, w, c1, c2⟩ := m_rem80 hO hR hH (by omega)
    have e : rmK K = K + 1 := if_neg c
    refine ⟨k, w, ?_, c2⟩
    rw [e]
    refine mH_congr (fun p hp => ?_) (fun p hp => ?_) c1
    · show (if p = K then N else hN p) = rmS K hN N p
      unfold rmS
      rw [e, if_neg c]
      by_cases q : p = K
      · rw [if_pos q, if_pos (by omega)]
      · rw [if_neg q, if_neg (by omega)]
    · show (if p = K then r else hr p) = rmS K hr r p
      unfold rmS
      rw [e, if_neg c]
      by_cases q : p = K
      · rw [if_pos q, if_pos (by omega)]
      · rw [if_neg q, if_neg (by omega)]
theorem rmK_le {K : Nat} (h : K ≤ 16) : rmK K ≤ 16 := by
  unfold rmK
  split <;> omega
theorem hz_rm (hz : pn P = 0 → N = 0 ∧ ∀ p, p < K → hN p = 0) (hK : K ≤ 16) (q : pn P = 0) : ∀ p, p < rmK K → rmS K hN N p = 0 := fun p hp => by
  obtain ⟨z1, z2⟩ := hz q
  unfold rmS
  by_cases e : p + 1 = rmK K
  · rw [if_pos e]; exact z1
  · rw [if_neg e]
    unfold rmK at hp e
    by_cases c : K = 16
    · rw [if_pos c] at hp e ⊢
      exact z2 _ (by omega)
    · rw [if_neg c] at hp e ⊢
      exact z2 _ (by omega)
/-- the class after a change of its rows -/
theorem cI_rows {H' : Nat × (Nat → Nat) × Nat × (Nat → Nat) × (Nat → Nat → Nat)} (hc : cI S g) (a : fr kRw g h) (p : cRw S.1 H' h) : cI (S.1, H', S.2.2) h := by
  obtain ⟨p1, p2, p3, p4, p5, p6, p7⟩ := hc
  refine ⟨p1, cPn_fr (K := kRw) (fun c hc => ?_) a p2, p, cTp_eq (a.1 1 rfl).1 (a.1 2 rfl).1 p4, cWr_eq (by rw [(a.1 0 rfl).1]) (a.1 41 rfl).1 (a.1 15 rfl).1 p5, by rw [(a.1 0 rfl).1]; exact p6, bKn_eq (a.1 26 rfl).1 (a.1 27 rfl).1 a.2.2 p7⟩
  unfold kRw
  rw [Bool.and_eq_false_iff, decide_eq_false_iff_not, decide_eq_false_iff_not]
  omega
theorem kRw_N (a : fr kRw g h) : fr kN g h := fr_le (fun c hc => by
  unfold kN at hc
  rw [Bool.or_eq_false_iff, decide_eq_false_iff_not] at hc
  unfold kRw
  rw [Bool.and_eq_false_iff, decide_eq_false_iff_not, decide_eq_false_iff_not]
  omega) a
/-- the reference after a change of its rows -/
def wRw (c i : Nat) : Prop := c = 55 ∨ c = 60 ∨ c = 61 ∨ c = 62 ∨ (63 ≤ c ∧ c ≤ 70) ∨ (c = 42 ∧ (i = 0 ∨ i = 18 ∨ i = 32 ∨ i = 36 ∨ i = 42))
theorem rI_rows {H' : Nat × (Nat → Nat) × Nat × (Nat → Nat) × (Nat → Nat → Nat)} (hm : rI S g) (a : mw wRw g h) (p : mRw S.1 H' h) : rI (S.1, H', S.2.2) h := by
  obtain ⟨p1, p2, p3, p4, p5⟩ := hm
  refine ⟨mPn_mw (fun c k q => by unfold wRw at q; omega) a p1, p, mTp_mw (fun c k q => by unfold wRw at q; omega) a p3, mWr_mw (fun c k q => by unfold wRw at q; omega) a p4, ?_⟩
  rw [a.1 42 5 (by unfold wRw; omega)]
  exact p5
theorem wRw_R (a : mw wRw g h) : fr kRf g h := mw_fr (fun c k q => by unfold wRw at q; omega) a
theorem wRm_Rw (a : mw wRm g h) : mw wRw g h := mw_le (fun c k q => by unfold wRm at q; unfold wRw; omega) a
theorem sc_Rw (a : sc g h) : mw wRw g h := mw_sc (fun c k q => by unfold wRw; omega) a
theorem m_undo (hO : pOK P) (hH : mH P (K + 1) hN hr g) : ∃ k, nX11_undo g = some (nI K, k) ∧ mR P (hN K) (hr K) k ∧ mH P K hN hr k ∧ mw wRw g k := by
  have h5 := hO.1
  obtain ⟨k1, k2, k3⟩ := hH
  obtain ⟨p1, p2, p3⟩ := k3 K (by omega)
  have eK : nI (K + 1) - (1 : Int32) = nI K := by rw [← nI_s, Int32.add_sub_cancel]
  have g1 : mw wRw g (zi (zi g 42 0 0) 42 32 (nI K)) := mw_tr (mw_zi (by unfold wRw; omega) _ _) (mw_zi (by unfold wRw; omega) _ _)
  have key : ∃ o : Int32 × zS, wh (wX11_undo_26 ) ((0 : Int32), zi (zi g 42 0 0) 42 32 (nI K)) = some o ∧ (o.1 = nI K ∧ mR P (hN K) (hr K) o.2 ∧ mH P K hN hr o.2 ∧ mw wRw g o.2) := by
    refine wh_up (fun i (s : Int32 × zS) => s.1 = nI i ∧ s.2.1 42 32 = nI K ∧ (∀ j, j < i → s.2.1 55 j = g.1 62 (200 * K + j)) ∧ mw (fun c k => c = 55 ∨ (c = 42 ∧ (k = 0 ∨ k = 32))) g s.2) (fun o : Int32 × zS => o.1 = nI K ∧ mR P (hN K) (hr K) o.2 ∧ mH P K hN hr o.2 ∧ mw wRw g o.2) 200 ?_ ?_ ⟨rfl, zi_at _ _ _ _, fun j hj => by omega, mw_tr (mw_zi (by omega) _ _) (mw_zi (by omega) _ _)⟩
    · intro i s hi ⟨a1, a2, a3, a4⟩
      unfold wX11_undo_26
      rw [a1, if_neg (show ¬ (200 : Int32) ≤ nI i from fun q => by have := (nN_le (a := 200) (by omega) (by omega)).mp q; omega), a2, show (200 : Int32) * nI K = nI (200 * K) from nI_mul 200 K, nN_add, zchk_t (zin_nI (by omega) (by omega)), zchk_t (zin_nI (by omega) (by omega)), nI_cl (by omega), nI_cl (by omega), a4.1 62 _ (by omega), nI_s]
      refine ⟨_, rfl, rfl, by rw [zi_else _ _ (by omega)]; exact a2, fun j hj => ?_, mw_tr a4 (mw_zi (Or.inl rfl) _ _)⟩
      by_cases q : j = i
      · rw [q, zi_at]
      · rw [zi_else _ _ (by omega)]; exact a3 j (by omega)
    · intro s ⟨a1, a2, a3, a4⟩
      unfold wX11_undo_26
      rw [a1, if_pos (show (200 : Int32) ≤ nI 200 by decide), a2, zchk_t (zin_nI (by omega) (by omega)), nI_cl (by omega), a4.1 61 K (by omega), p2]
      refine ⟨_, rfl, by rw [zi_else _ _ (by omega)]; exact a2, ⟨zi_at _ _ _ _, p1, fun i hi => ⟨fun f hf => ?_, (p3 i hi).2⟩⟩, ⟨by rw [zi_else _ _ (by omega)]; exact a2, by omega, fun p hp => ?_⟩, mw_tr (mw_le (fun c k q => by unfold wRw; omega) a4) (mw_zi (by unfold wRw; omega) _ _)⟩
      · rw [zi_else _ _ (by omega), a3 _ (by omega)]
        exact (p3 i hi).1 f hf
      · obtain ⟨q1, q2, q3⟩ := k3 p (by omega)
        refine ⟨q1, by rw [zi_else _ _ (by omega), a4.1 61 p (by omega)]; exact q2, fun i hi => ⟨fun f hf => ?_, (q3 i hi).2⟩⟩
        rw [zi_else _ _ (by omega), a4.1 62 _ (by omega)]
        exact (q3 i hi).1 f hf
  obtain ⟨⟨o1, o2⟩, w, e, c1, c2, c3⟩ := key
  refine ⟨o2, ?_, c1, c2, c3⟩
  unfold nX11_undo
  rw [zi_else _ _ (by omega), k1, if_neg (fun q => absurd ((nN_eq0 (by omega)).mp q) (by omega)), eK, w, ← e]
theorem s_35 (a : Nat → Int32) (hv : Iv g) : ∃ r, nS_35 a g = some r ∧ Iv r := by
  obtain ⟨S, hc, hm⟩ := hv
  obtain ⟨hO, hPn, ⟨hR, hH, hz⟩, hT, hWr, hFl, hB⟩ := id hc
  obtain ⟨P, ⟨N, r, K, hN, hr⟩, T⟩ := S
  dsimp only at hO hPn hR hH hz
  unfold nS_35
  cases K with
  | zero =>
    refine st_d (S := (P, (N, r, 0, hN, hr), T)) (L := nX10_undo) (M := nX11_undo) (an := -1) hc hm ⟨g, ?_, fr_rfl _ _⟩ (fun h hm2 => ⟨zi h 42 0 0, ?_, sc_42 h 0⟩)
    · unfold nX10_undo
      rw [e_takeBack0 hH, Option.bind_some, if_pos rfl]
    · obtain ⟨_, ⟨_, p3⟩, _⟩ := hm2
      unfold nX11_undo
      rw [zi_else _ _ (by omega), p3.1, if_pos (show nI 0 = (0 : Int32) from rfl)]
  | succ K =>
    refine st_vd (S := (P, (N, r, K + 1, hN, hr), T)) (S' := (P, (hN K, hr K, K, hN, hr), T)) (L := nX10_undo) (M := nX11_undo) (an := nI K) hm ?_ (fun h hm2 => ?_)
    · obtain ⟨k, w, b1, b2, b3⟩ := e_takeBack hH
      refine ⟨k, ?_, kRw_N b1, cI_rows hc b1 ⟨b2, b3, fun q => ⟨(hz q).2 K (by omega), fun p hp => (hz q).2 p (Nat.lt_succ_of_lt hp)⟩⟩⟩
      unfold nX10_undo
      rw [w, Option.bind_some, if_neg n01, b3.1]
    · obtain ⟨_, ⟨_, p3⟩, _⟩ := id hm2
      obtain ⟨k, w, b1, b2, b3⟩ := m_undo hO p3
      exact ⟨k, w, wRw_R b3, rI_rows hm2 b3 ⟨b1, b2⟩⟩
theorem cI_rmd (hc : cI S g) : ∃ h, nX8_remember g = some h ∧ fr kRw g h ∧ rR S.1 S.2.1.1 S.2.1.2.1 h ∧ cH S.1 (rmK S.2.1.2.2.1) (rmS S.2.1.2.2.1 S.2.1.2.2.2.1 S.2.1.1) (rmS S.2.1.2.2.1 S.2.1.2.2.2.2 S.2.1.2.1) h ∧ (pn S.1 = 0 → ∀ p, p < rmK S.2.1.2.2.1 → rmS S.2.1.2.2.1 S.2.1.2.2.2.1 S.2.1.1 p = 0) := by
  obtain ⟨hO, hPn, ⟨hR, hH, hz⟩, hT, hWr, hFl, hB⟩ := id hc
  obtain ⟨h, w, b1, b2, b3⟩ := e_remember hR hH
  exact ⟨h, w, b1, b2, b3, fun q => hz_rm hz hH.2.1 q⟩
theorem s_17 (a : Nat → Int32) (hv : Iv g) : ∃ r, nS_17 a g = some r ∧ Iv r := by
  obtain ⟨S, hc, hm⟩ := hv
  obtain ⟨hO, hPn, ⟨hR, hH, hz⟩, hT, hWr, hFl, hB⟩ := id hc
  have h40 := hR.2.1
  unfold nS_17
  by_cases c : S.2.1.1 = 0
  · refine st_q (S := S) (L := nL_drop) (M := nX11_drop) (cd := 1) (an := 0) hc hm ?_ (fun h hm2 => ?_)
    · exact cQ_rs (X := nX10_drop) (by unfold nX10_drop; rw [hR.1, c, if_pos (show nI 0 = (0 : Int32) from rfl)]) (fr_rfl _ _) (by rw [if_pos rfl]) n01
    · obtain ⟨_, ⟨p2, p3⟩, _⟩ := hm2
      unfold nX11_drop jX11_drop_13
      rw [p2.1, c, if_pos (show nI 0 = (0 : Int32) from rfl), zi_at, if_neg le1]
      exact mQ_err n01
  · have e1 : nI S.2.1.1 - (1 : Int32) = nI (S.2.1.1 - 1) := nI_sub (b := 1) (by omega)
    have hne : ¬ nI S.2.1.1 = 0 := fun q => c ((nN_eq0 (by omega)).mp q)
    refine st_v (S := S) (S' := (S.1, (S.2.1.1 - 1, S.2.1.2.1, rmK S.2.1.2.2.1, rmS S.2.1.2.2.1 S.2.1.2.2.2.1 S.2.1.1, rmS S.2.1.2.2.1 S.2.1.2.2.2.2 S.2.1.2.1), S.2.2)) (L := nL_drop) (M := nX11_drop) (cd := 0) (an := nI (S.2.1.1 - 1)) hm ?_ (fun h hm2 => ?_)
    · obtain ⟨k, w, b1, b2, b3, b4⟩ := cI_rmd hc
      have b5 : fr kRw g (zi k 31 1 (nI (S.2.1.1 - 1))) := fr_tr b1 (fr_zi rfl _ _ _)
      refine cV_ls (X := nX10_drop) (h := zi k 31 1 (nI (S.2.1.1 - 1))) ?_ (kRw_N b5) (cI_rows hc b5 ⟨⟨zi_at _ _ _ _, by omega, fun i hi => ?_⟩, ?_, fun q => ⟨by have := (hz q).1; omega, b4 q⟩⟩)
      · unfold nX10_drop
        rw [hR.1, if_neg hne, w, Option.bind_some, b2.1, e1, zi_at]
      · rw [zi_cell _ _ (by omega)]
        exact b2.2.2 i (by omega)
      · unfold cH
        rw [zi_else _ _ (by omega), zi_cell _ _ (show 33 ≠ 31 by omega)]
        exact b3
    · obtain ⟨_, ⟨p2, p3⟩, _⟩ := id hm2
      obtain ⟨k, w, c1, c2⟩ := m_remembers hO (mR_sc (sc_42 h 0) p2) (mH_mw (fun c k q => by omega) (mw_zi (W := fun c k => c = 42 ∧ k = 0) ⟨rfl, rfl⟩ h 0) p3)
      have c3 : mw wRw h (zi k 42 18 (nI (S.2.1.1 - 1))) := mw_tr (mw_zi (by unfold wRw; omega) _ _) (mw_tr (wRm_Rw c2) (mw_zi (by unfold wRw; omega) _ _))
      have hRk := mR_mw (W := wRm) (fun c k q => by unfold wRm at q; omega) c2 (mR_sc (sc_42 h 0) p2)
      refine ⟨_, _, ?_, wRw_R c3, rI_rows hm2 c3 ⟨⟨zi_at _ _ _ _, by omega, fun i hi => ?_⟩, mH_mw (W := fun c k => c = 42 ∧ k = 18) (fun c k q => by omega) (mw_zi ⟨rfl, rfl⟩ _ _) c1⟩, ?_, fun _ => rfl⟩
      · unfold nX11_drop jX11_drop_13
        rw [p2.1, if_neg hne, zi_at, if_pos (Int32.le_refl 0), w, Option.bind_some, hRk.1, e1, zi_at]
      · rw [zi_cell _ _ (by omega)]
        exact hRk.2.2 i (by omega)
      · rw [zi_else _ _ (by omega), c2.1 42 0 (by unfold wRm; omega), zi_at]
end S12
