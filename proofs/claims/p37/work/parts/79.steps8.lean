
/-! ===== steps: write, tried, count ===== -/
section S8
variable {S S' : zSt} {g h k : zS} {P : zPl}
/-- the byte that is written for a field -/
def wrB (c i : Nat) : Nat := if rv c i = 0 then 63 else 47 + rv c i
theorem e_write (hO : pOK P) (hP : cP P g) (hb : bt15 g) {c : Nat} (hc : rOK P c) : ∃ r : (Int32 ⊕ String) × zS, wh (wX10_write_16 (nI c)) ((0 : Int32), g) = some r ∧ (r.1 = .inl (nI (pn P)) ∧ cWr (pn P) (wrB c) r.2 ∧ r.2.1 0 12 = g.1 0 12 ∧ fr (fun c => c == 41 || c == 0) g r.2) := by
  have h5 := hO.1
  refine wh_up (fun i (s : Int32 × zS) => s.1 = nI i ∧ (∀ k, k < i → s.2.1 41 k = nI (wrB c k)) ∧ fr (fun c => c == 41) g s.2) (fun (r : (Int32 ⊕ String) × zS) => r.1 = .inl (nI (pn P)) ∧ cWr (pn P) (wrB c) r.2 ∧ r.2.1 0 12 = g.1 0 12 ∧ fr (fun c => c == 41 || c == 0) g r.2) (pn P) ?_ ?_ ⟨rfl, fun k hk => by omega, fr_rfl _ _⟩
  · intro i s hi ⟨a1, a2, a3⟩
    have v := rv_lt c i
    unfold wX10_write_16
    rw [a1, (a3.1 3 rfl).1, hP.1, if_neg (fun q => by rw [nN_le (by omega) (by omega)] at q; omega), e_answerAt hc.1 (by omega), Option.bind_some]
    have fin : ∀ x : Int32, x = nI (wrB c i) → ∃ s' : Int32 × zS, zchk (zin (nI i) 5) (some ((.inl (nI i + (1 : Int32), zi s.2 41 (nI i).toNatClampNeg x) : (Int32 × zS) ⊕ ((Int32 ⊕ String) × zS)))) = some (.inl s') ∧ s'.1 = nI (i + 1) ∧ (∀ k, k < i + 1 → s'.2.1 41 k = nI (wrB c k)) ∧ fr (fun c => c == 41) g s'.2 := fun x hx => by
      rw [zchk_t (zin_nI (by omega) (by omega)), nI_cl (by omega)]
      refine ⟨_, rfl, nI_s i, fun k hk => ?_, fr_tr a3 (fr_zi rfl _ _ _)⟩
      by_cases q : k = i
      · rw [q, zi_at, hx]
      · rw [zi_else _ _ (by omega)]
        exact a2 k (by omega)
    by_cases q : rv c i = 0
    · rw [if_pos ((nJ_m1 (by omega)).mpr q)]
      refine fin _ ?_
      unfold wrB
      rw [if_pos q]
      exact b8_nar (x := 63) (by omega)
    · rw [if_neg (fun e => q ((nJ_m1 (by omega)).mp e))]
      refine fin _ ?_
      unfold wrB
      rw [if_neg q, nJ_pp (by omega), show (48 : Int32) + nI (rv c i - 1) = nI (48 + (rv c i - 1)) from nN_add 48 _, show 48 + (rv c i - 1) = 47 + rv c i by omega]
      exact b8_nar (by omega)
  · intro s ⟨a1, a2, a3⟩
    unfold wX10_write_16
    rw [a1, (a3.1 3 rfl).1, hP.1, if_pos (Int32.le_refl _)]
    refine ⟨_, rfl, by dsimp only; rw [zi_at], ⟨zi_at _ _ _ _, h5, fun k hk => ?_, fun k hk => ?_⟩, ?_, ?_⟩
    · dsimp only
      rw [zi_cell _ _ (by omega)]
      exact a2 k hk
    · dsimp only
      rw [zi_cell _ _ (by omega), (a3.1 15 rfl).1]
      exact hb k hk
    · dsimp only
      rw [zi_else _ _ (by omega), (a3.1 0 rfl).1]
    · exact fr_tr (fr_le (fun c hc => by rw [Bool.or_eq_false_iff] at hc; exact hc.1) a3) (fr_zi rfl _ _ _)
theorem m_write (hO : pOK P) (hM : mP P g) {N : Nat} {r : Nat → Nat} (hR : mR P N r g) {i : Nat} (hi : i < N) : ∃ k, nX11_write (nI i) g = some (nI (pn P), k) ∧ mWr (pn P) (wrB (r i)) k ∧ k.1 42 0 = 0 ∧ mw (fun c k => (c = 42 ∧ (k = 0 ∨ k = 46)) ∨ c = 71) g k := by
  have h5 := hO.1
  have hW : ∀ c k, ((c = 42 ∧ (k = 0 ∨ k = 46)) ∨ c = 71) → c ≠ 55 ∧ (c = 42 → k ≠ 18) := fun c k q => by omega
  have g1 : mw (fun c k => (c = 42 ∧ (k = 0 ∨ k = 46)) ∨ c = 71) g (zi (zi g 42 0 0) 42 46 (nI (pn P))) := mw_tr (mw_zi (by omega) _ _) (mw_zi (by omega) _ _)
  have key : ∃ w : Int32 × zS, wh (wX11_write_36 (nI i)) ((0 : Int32), zi (zi g 42 0 0) 42 46 (nI (pn P))) = some w ∧ (w.1 = nI (pn P) ∧ mWr (pn P) (wrB (r i)) w.2 ∧ w.2.1 42 0 = 0 ∧ mw (fun c k => (c = 42 ∧ (k = 0 ∨ k = 46)) ∨ c = 71) g w.2) := by
    refine wh_up (fun f (s : Int32 × zS) => s.1 = nI f ∧ s.2.1 42 46 = nI (pn P) ∧ s.2.1 42 0 = 0 ∧ (∀ k, k < f → s.2.1 71 k = nI (wrB (r i) k)) ∧ mw (fun c k => (c = 42 ∧ (k = 0 ∨ k = 46)) ∨ c = 71) g s.2) (fun (w : Int32 × zS) => w.1 = nI (pn P) ∧ mWr (pn P) (wrB (r i)) w.2 ∧ w.2.1 42 0 = 0 ∧ mw (fun c k => (c = 42 ∧ (k = 0 ∨ k = 46)) ∨ c = 71) g w.2) (pn P) ?_ ?_ ⟨rfl, zi_at _ _ _ _, by rw [zi_else _ _ (by decide), zi_at], fun k hk => by omega, g1⟩
    · intro f s hf ⟨a1, a2, a0, a3, a4⟩
      have hRs := mR_mw hW a4 hR
      have v := rv_lt (r i) f
      unfold wX11_write_36
      rw [a1, a4.1 42 16 (by omega), hM.1, if_neg (fun q => by rw [nN_le (by omega) (by omega)] at q; omega), m_of hRs h5 hi hf, Option.bind_some]
      have fin : ∀ x : Int32, x = nI (wrB (r i) f) → ∃ s' : Int32 × zS, zchk (zin (nI f) 5) (some ((.inl (nI f + (1 : Int32), zi s.2 71 (nI f).toNatClampNeg x) : (Int32 × zS) ⊕ (Int32 × zS)))) = some (.inl s') ∧ s'.1 = nI (f + 1) ∧ s'.2.1 42 46 = nI (pn P) ∧ s'.2.1 42 0 = 0 ∧ (∀ k, k < f + 1 → s'.2.1 71 k = nI (wrB (r i) k)) ∧ mw (fun c k => (c = 42 ∧ (k = 0 ∨ k = 46)) ∨ c = 71) g s'.2 := fun x hx => by
        rw [zchk_t (zin_nI (by omega) (by omega)), nI_cl (by omega)]
        refine ⟨_, rfl, nI_s f, by rw [zi_else _ _ (by omega), a2], by rw [zi_else _ _ (by omega), a0], fun k hk => ?_, mw_tr a4 (mw_zi (by omega) _ _)⟩
        by_cases q : k = f
        · rw [q, zi_at, hx]
        · rw [zi_else _ _ (by omega)]
          exact a3 k (by omega)
      by_cases q : rv (r i) f = 0
      · rw [if_pos ((nJ_m1 (by omega)).mpr q)]
        refine fin _ ?_
        unfold wrB
        rw [if_pos q]
        rfl
      · rw [if_neg (fun e => q ((nJ_m1 (by omega)).mp e)), Option.bind_some]
        refine fin _ ?_
        unfold wrB
        rw [if_neg q, nJ_pp (by omega), show (48 : Int32) + nI (rv (r i) f - 1) = nI (48 + (rv (r i) f - 1)) from nN_add 48 _, show 48 + (rv (r i) f - 1) = 47 + rv (r i) f by omega]
    · intro s ⟨a1, a2, a0, a3, a4⟩
      unfold wX11_write_36
      rw [a1, a4.1 42 16 (by omega), hM.1, if_pos (Int32.le_refl _)]
      exact ⟨_, rfl, a2, ⟨a2, a3⟩, a0, a4⟩
  obtain ⟨⟨w1, w2⟩, w, e, b1, b2, b3⟩ := key
  refine ⟨w2, ?_, b1, b2, b3⟩
  unfold nX11_write jX11_write_14
  rw [m_isRow hR hi, Option.bind_some, if_neg n01, zi_at, if_pos (Int32.le_refl 0), zi_else _ _ (by decide), hM.1, w, ← e]
theorem s_46 (a : Nat → Int32) (hv : Iv g) : ∃ r, nS_46 a g = some r ∧ Iv r := by
  obtain ⟨S, hc, hm⟩ := hv
  obtain ⟨hO, hPn, ⟨hR, hH, hz⟩, hT, hWr, hFl, hB⟩ := id hc
  have hP := hPn.1
  have hN := hR.2.1
  unfold nS_46
  rcases ix2 (a 1) (n := S.2.1.1) (by omega) with ⟨i, hi, e1⟩ | hno
  · rw [e1]
    refine st_v (S := S) (S' := (S.1, S.2.1, S.2.2.1, S.2.2.2.1, pn S.1, wrB (S.2.1.2.1 i), S.2.2.2.2.2.2)) (L := nL_write (nI i)) (M := nX11_write (nI i)) (cd := 0) (an := nI (pn S.1)) hm ?_ ?_
    · obtain ⟨⟨r1, r2⟩, w, e, b1, b2, b3⟩ := e_write hO hP hWr.2.2.2 (hR.2.2 i hi).2
      dsimp only at e b1 b2 b3
      refine cV_ls (X := nX10_write (nI i)) (h := r2) ?_ (fr_le (fun c hc => ?_) b3) ?_
      · unfold nX10_write
        rw [c_needRow hR hi, Option.bind_some, zel_i, e_codeOf hR hi, Option.bind_some, w, e]
      · unfold kN at hc
        rw [Bool.or_eq_false_iff, decide_eq_false_iff_not] at hc
        rw [Bool.or_eq_false_iff, beq_eq_false_iff_ne, beq_eq_false_iff_ne]
        omega
      · refine ⟨hO, cPn_fr (K := fun c => c == 41 || c == 0) (fun c hc => ?_) b3 hPn, cRw_eq (b3.1 31 rfl).1 (b3.1 32 rfl).1 (b3.1 33 rfl).1 ⟨hR, hH, hz⟩, cTp_eq (b3.1 1 rfl).1 (b3.1 2 rfl).1 hT, b1, by rw [b2]; exact hFl, bKn_eq (b3.1 26 rfl).1 (b3.1 27 rfl).1 b3.2.2 hB⟩
        rw [Bool.or_eq_false_iff, beq_eq_false_iff_ne, beq_eq_false_iff_ne]
        omega
    · intro h hm2
      obtain ⟨p1, ⟨p2, p3⟩, p4, p5, p6⟩ := hm2
      obtain ⟨k, w, b1, b0, b2⟩ := m_write hO p1.1 p2 hi
      refine ⟨k, _, w, mw_fr (fun c k q => by omega) b2, ⟨mPn_mw (fun c k q => by omega) b2 p1, ⟨mR_mw (fun c k q => by omega) b2 p2, mH_mw (fun c k q => by omega) b2 p3⟩, mTp_mw (fun c k q => by omega) b2 p4, b1, ?_⟩, b0, fun _ => rfl⟩
      rw [b2.1 42 5 (by omega)]
      exact p6
  · refine st_q (S := S) (L := nL_write (a 1)) (M := nX11_write (a 1)) (cd := 1) (an := 0) hc hm ?_ ?_
    · exact cQ_rs (X := nX10_write (a 1)) (by unfold nX10_write; rw [c_needRowN hR hno, Option.bind_some, zel_e]) (fr_rfl _ _) (by rw [if_pos rfl]) n01
    · intro h hm2
      obtain ⟨p1, ⟨p2, p3⟩, p4, p5, p6⟩ := hm2
      unfold nX11_write jX11_write_14
      rw [m_isRowN p2 hno, Option.bind_some, if_pos rfl, zi_at, if_neg le1]
      exact mQ_err n01
end S8
