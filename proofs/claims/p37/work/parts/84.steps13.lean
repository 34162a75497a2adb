
/-! ===== steps: copy, tell; what a mending changes ===== -/
section S13
variable {S S' : zSt} {g h k : zS} {P : zPl} {N K : Nat} {r : Nat → Nat} {hN : Nat → Nat} {hr : Nat → Nat → Nat}
/-- the memory after an act -/
def Hm (H : Nat × (Nat → Nat) × Nat × (Nat → Nat) × (Nat → Nat → Nat)) (N' : Nat) (r' : Nat → Nat) : Nat × (Nat → Nat) × Nat × (Nat → Nat) × (Nat → Nat → Nat) := (N', r', rmK H.2.2.1, rmS H.2.2.1 H.2.2.2.1 H.1, rmS H.2.2.1 H.2.2.2.2 H.2.1)
theorem cRw_row {H : Nat × (Nat → Nat) × Nat × (Nat → Nat) × (Nat → Nat → Nat)} (hR : rR P H.1 H.2.1 g) (hH : cH P (rmK H.2.2.1) (rmS H.2.2.1 H.2.2.2.1 H.1) (rmS H.2.2.1 H.2.2.2.2 H.2.1) g) (hz : pn P = 0 → H.1 = 0 ∧ ∀ p, p < rmK H.2.2.1 → rmS H.2.2.1 H.2.2.2.1 H.1 p = 0) {i c : Nat} (hi : i < H.1) (hc : rOK P c) : cRw P (Hm H H.1 (upA H.2.1 i c)) (zi g 32 i (nI c)) := by
  refine ⟨⟨by rw [zi_else _ _ (by omega)]; exact hR.1, hR.2.1, fun j hj => ?_⟩, ?_, hz⟩
  · show (zi g 32 i (nI c)).1 32 j = nI (if j = i then c else H.2.1 j) ∧ rOK P (if j = i then c else H.2.1 j)
    by_cases q : j = i
    · rw [if_pos q, q, zi_at]; exact ⟨rfl, hc⟩
    · rw [if_neg q, zi_else _ _ (by omega)]; exact hR.2.2 j hj
  · show cH P _ _ _ _
    unfold cH
    rw [zi_cell _ _ (show 31 ≠ 32 by omega), zi_cell _ _ (show 33 ≠ 32 by omega)]
    exact hH
theorem m_rmd (hO : pOK P) (hm : rI S g) (hP : S.1 = P) : ∃ k, nX11_remembers (zi g 42 0 0) = some k ∧ mw wRw g k ∧ k.1 42 0 = 0 ∧ mR P S.2.1.1 S.2.1.2.1 k ∧ mH P (rmK S.2.1.2.2.1) (rmS S.2.1.2.2.1 S.2.1.2.2.2.1 S.2.1.1) (rmS S.2.1.2.2.1 S.2.1.2.2.2.2 S.2.1.2.1) k ∧ mP P k ∧ mF P k ∧ k.1 55 = g.1 55 := by
  subst hP
  obtain ⟨⟨pm, pf, _⟩, ⟨p2, p3⟩, _⟩ := id hm
  obtain ⟨k, w, c1, c2⟩ := m_remembers hO (mR_sc (sc_42 g 0) p2) (mH_mw (fun c k q => by omega) (mw_zi (W := fun c k => c = 42 ∧ k = 0) ⟨rfl, rfl⟩ g 0) p3)
  have c3 : mw wRw g k := mw_tr (mw_zi (by unfold wRw; omega) _ _) (wRm_Rw c2)
  refine ⟨k, w, c3, ?_, mR_mw (W := wRm) (fun c k q => by unfold wRm at q; omega) c2 (mR_sc (sc_42 g 0) p2), c1, ?_⟩
  · rw [c2.1 42 0 (by unfold wRm; omega), zi_at]
  · have := mPn_mw (fun c k q => by unfold wRw at q; omega) c3 hm.1
    refine ⟨this.1, this.2.1, funext fun j => ?_⟩
    rw [c2.1 55 j (by unfold wRm; omega), zi_else _ _ (by omega)]
theorem mH_55 {i : Nat} {v : Int32} (p : mH P K hN hr g) : mH P K hN hr (zi g 55 i v) := mH_mw (W := fun c _ => c = 55) (fun c k q => by omega) (mw_zi (W := fun c _ => c = 55) rfl _ _) p
theorem s_16 (a : Nat → Int32) (hv : Iv g) : ∃ r, nS_16 a g = some r ∧ Iv r := by
  obtain ⟨S, hc, hm⟩ := hv
  obtain ⟨hO, hPn, ⟨hR, hH, hz⟩, hT, hWr, hFl, hB⟩ := id hc
  have h40 := hR.2.1
  have h5 := hO.1
  unfold nS_16
  rcases ix2 (a 1) (n := S.2.1.1) (by omega) with ⟨i, hi, e1⟩ | hno
  · rw [e1]
    by_cases c : S.2.1.1 = 40
    · refine st_q (S := S) (L := nL_copy (nI i)) (M := nX11_copy (nI i)) (cd := 2) (an := 0) hc hm ?_ (fun h hm2 => ?_)
      · exact cQ_rs (X := nX10_copy (nI i)) (e := "java/lang/IllegalStateException") (by unfold nX10_copy; rw [c_needRow hR hi, Option.bind_some, zel_i, hR.1, c, if_neg (show ¬ nI 40 < (40 : Int32) by decide)]) (fr_rfl _ _) (by rw [if_neg (by decide), if_pos rfl]) n02
      · obtain ⟨_, ⟨p2, p3⟩, _⟩ := hm2
        unfold nX11_copy jX11_copy_27
        rw [m_isRow p2 hi, Option.bind_some, if_neg n01, p2.1, c, if_pos (show nI 40 = (40 : Int32) from rfl), zi_at, if_neg le2]
        exact mQ_err n02
    · refine st_v (S := S) (S' := (S.1, Hm S.2.1 (S.2.1.1 + 1) (upA S.2.1.2.1 S.2.1.1 (S.2.1.2.1 i)), S.2.2)) (L := nL_copy (nI i)) (M := nX11_copy (nI i)) (cd := 0) (an := nI S.2.1.1) hm ?_ (fun h hm2 => ?_)
      · obtain ⟨k, w, b1, b2, b3, b4⟩ := cI_rmd hc
        have b5 : fr kRw g (zi (zi k 32 S.2.1.1 (nI (S.2.1.2.1 i))) 31 1 (nI (S.2.1.1 + 1))) := fr_tr b1 (fr_tr (fr_zi rfl _ _ _) (fr_zi rfl _ _ _))
        refine cV_ls (X := nX10_copy (nI i)) (h := zi (zi k 32 S.2.1.1 (nI (S.2.1.2.1 i))) 31 1 (nI (S.2.1.1 + 1))) ?_ (kRw_N b5) (cI_rows hc b5 ⟨⟨zi_at _ _ _ _, by show S.2.1.1 + 1 ≤ 40; omega, fun j hj => ?_⟩, ?_, fun q => ⟨by have := (hz q).1; omega, b4 q⟩⟩)
        · unfold nX10_copy
          rw [c_needRow hR hi, Option.bind_some, zel_i, hR.1, if_pos (show nI S.2.1.1 < (40 : Int32) from (nN_lt (b := 40) (by omega) (by omega)).mpr (by omega)), w, Option.bind_some, e_codeOf b2 hi, Option.bind_some, b2.1, zchk_t (zin_nI (by omega) (by omega)), nI_cl (by omega), zi_at, zi_else _ _ (by omega), b2.1, nI_s, show nI (S.2.1.1 + 1) - (1 : Int32) = nI S.2.1.1 from by rw [← nI_s, Int32.add_sub_cancel]]
        · show _ = nI (if j = S.2.1.1 then _ else _) ∧ rOK S.1 (if j = S.2.1.1 then _ else _)
          rw [zi_cell _ _ (by omega)]
          by_cases q : j = S.2.1.1
          · rw [if_pos q, q, zi_at]; exact ⟨rfl, (hR.2.2 i hi).2⟩
          · rw [if_neg q, zi_else _ _ (by omega)]
            have hj' : j < S.2.1.1 + 1 := hj
            exact b2.2.2 j (by omega)
        · show cH _ _ _ _ _
          unfold cH
          rw [zi_else _ _ (by omega), zi_cell _ _ (show 31 ≠ 32 by omega), zi_cell _ _ (show 33 ≠ 31 by omega), zi_cell _ _ (show 33 ≠ 32 by omega)]
          exact b3
      · obtain ⟨_, ⟨p2, p3⟩, _⟩ := id hm2
        obtain ⟨k, w, c1, c2, c3, c4, c5⟩ := m_rmd hO hm2 rfl
        have key : ∃ o : Int32 × zS, wh (wX11_copy_45 (nI i)) ((0 : Int32), k) = some o ∧ (o.1 = nI S.2.1.1 ∧ o.2.1 42 0 = 0 ∧ mRw S.1 (Hm S.2.1 (S.2.1.1 + 1) (upA S.2.1.2.1 S.2.1.1 (S.2.1.2.1 i))) o.2 ∧ mw wRw h o.2) := by
          refine wh_up (fun f (s : Int32 × zS) => s.1 = nI f ∧ (∀ e, e < f → s.2.1 55 (5 * S.2.1.1 + e) = k.1 55 (5 * i + e)) ∧ (∀ j, j < 5 * S.2.1.1 → s.2.1 55 j = k.1 55 j) ∧ mw (fun c _ => c = 55) k s.2) (fun o : Int32 × zS => o.1 = nI S.2.1.1 ∧ o.2.1 42 0 = 0 ∧ mRw S.1 (Hm S.2.1 (S.2.1.1 + 1) (upA S.2.1.2.1 S.2.1.1 (S.2.1.2.1 i))) o.2 ∧ mw wRw h o.2) 5 ?_ ?_ ⟨rfl, fun e he => by omega, fun _ _ => rfl, mw_rfl _⟩
          · intro f s hf ⟨a1, a2, a3, a4⟩
            unfold wX11_copy_45 nX11_of
            rw [a1, if_neg (show ¬ (5 : Int32) ≤ nI f from fun q => by have := (nN_le (a := 5) (by omega) (by omega)).mp q; omega), a4.1 42 18 (by omega), c3.1, show (5 : Int32) * nI i = nI (5 * i) from nI_mul 5 i, show (5 : Int32) * nI S.2.1.1 = nI (5 * S.2.1.1) from nI_mul 5 _, nN_add, nN_add, zchk_t (zin_nI (by omega) (by omega)), nI_cl (by omega), Option.bind_some, zchk_t (zin_nI (by omega) (by omega)), nI_cl (by omega), a3 _ (by omega), nI_s]
            refine ⟨_, rfl, rfl, fun e he => ?_, fun j hj => ?_, mw_tr a4 (mw_zi (W := fun c _ => c = 55) rfl _ _)⟩
            · by_cases q : e = f
              · rw [q, zi_at]
              · rw [zi_else _ _ (by omega)]; exact a2 e (by omega)
            · rw [zi_else _ _ (by omega)]; exact a3 j hj
          · intro s ⟨a1, a2, a3, a4⟩
            unfold wX11_copy_45
            rw [a1, if_pos (show (5 : Int32) ≤ nI 5 by decide), zi_at, a4.1 42 18 (by omega), c3.1, nI_s, show nI (S.2.1.1 + 1) - (1 : Int32) = nI S.2.1.1 from by rw [← nI_s, Int32.add_sub_cancel]]
            refine ⟨_, rfl, rfl, by rw [zi_else _ _ (by omega), a4.1 42 0 (by omega)]; exact c2, ⟨⟨zi_at _ _ _ _, by show S.2.1.1 + 1 ≤ 40; omega, fun j hj => ?_⟩, ?_⟩, mw_tr c1 (mw_tr (mw_le (fun c k q => by unfold wRw; omega) a4) (mw_zi (by unfold wRw; omega) _ _))⟩
            · show (∀ f, f < pn S.1 → _ = nJ (rv (if j = S.2.1.1 then _ else _) f)) ∧ rOK S.1 (if j = S.2.1.1 then _ else _)
              by_cases q : j = S.2.1.1
              · rw [if_pos q]
                refine ⟨fun f hf => ?_, (c3.2.2 i hi).2⟩
                rw [zi_else _ _ (by omega), q, a2 f (by omega)]
                exact (c3.2.2 i hi).1 f hf
              · rw [if_neg q]
                have hj' : j < S.2.1.1 + 1 := hj
                refine ⟨fun f hf => ?_, (c3.2.2 j (by omega)).2⟩
                rw [zi_else _ _ (by omega), a3 _ (by omega)]
                exact (c3.2.2 j (by omega)).1 f hf
            · exact mH_mw (W := fun c k => c = 42 ∧ k = 18) (fun c k q => by omega) (mw_zi ⟨rfl, rfl⟩ _ _) (mH_mw (fun c k q => by omega) a4 c4)
        obtain ⟨⟨o1, o2⟩, w2, e, d1, d2, d3⟩ := key
        refine ⟨o2, o1, ?_, wRw_R d3, rI_rows hm2 d3 d2, d1, fun _ => e⟩
        unfold nX11_copy jX11_copy_27
        rw [m_isRow p2 hi, Option.bind_some, if_neg n01, p2.1, if_neg (show ¬ nI S.2.1.1 = (40 : Int32) from fun q => c ((nN_eq (b := 40) (by omega) (by omega)).mp q)), zi_at, if_pos (Int32.le_refl 0), w, Option.bind_some, w2]
  · refine st_q (S := S) (L := nL_copy (a 1)) (M := nX11_copy (a 1)) (cd := 1) (an := 0) hc hm ?_ (fun h hm2 => ?_)
    · exact cQ_rs (X := nX10_copy (a 1)) (by unfold nX10_copy; rw [c_needRowN hR hno, Option.bind_some, zel_e]) (fr_rfl _ _) (by rw [if_pos rfl]) n01
    · obtain ⟨_, ⟨p2, p3⟩, _⟩ := hm2
      unfold nX11_copy jX11_copy_27
      rw [m_isRowN p2 hno, Option.bind_some, if_pos rfl, zi_at, if_neg le1]
      exact mQ_err n01
theorem s_15 (a : Nat → Int32) (hv : Iv g) : ∃ r, nS_15 a g = some r ∧ Iv r := by
  obtain ⟨S, hc, hm⟩ := hv
  obtain ⟨hO, hPn, ⟨hR, hH, hz⟩, hT, hWr, hFl, hB⟩ := id hc
  have hP := hPn.1
  have h40 := hR.2.1
  have h5 := hO.1
  unfold nS_15
  rcases ix2 (a 1) (n := S.2.1.1) (by omega) with ⟨i, hi, e1⟩ | hno
  · rcases ix2 (a 2) (n := pn S.1) (by omega) with ⟨f, hf, e2⟩ | hno2
    · have hq := (hO.2.1 f hf).2.1
      by_cases hok : ∃ j, j ≤ pq S.1 f ∧ a 3 = nJ j
      · obtain ⟨j, hj, e3⟩ := hok
        rw [e1, e2, e3]
        refine st_v (S := S) (S' := (S.1, Hm S.2.1 S.2.1.1 (upA S.2.1.2.1 i (wa (S.2.1.2.1 i) f j)), S.2.2)) (L := nL_tell (nI i) (nI f) (nJ j)) (M := nX11_tell (nI i) (nI f) (nJ j)) (cd := 0) (an := nJ (rv (S.2.1.2.1 i) f)) hm ?_ (fun h hm2 => ?_)
        · obtain ⟨k, w, b1, b2, b3, b4⟩ := cI_rmd hc
          have b5 : fr kRw g (zi k 32 i (nI (wa (S.2.1.2.1 i) f j))) := fr_tr b1 (fr_zi rfl _ _ _)
          refine cV_ls (X := nX10_tell (nI i) (nI f) (nJ j)) (h := zi k 32 i (nI (wa (S.2.1.2.1 i) f j))) ?_ (kRw_N b5) (cI_rows hc b5 (cRw_row b2 b3 (fun q => ⟨(hz q).1, b4 q⟩) hi (rOK_wa hO (hR.2.2 i hi).2 hf hj)))
          have ht : jX10_tell_21 (nI i) (nI f) (nJ j) g = some (.inl (nJ (rv (S.2.1.2.1 i) f)), zi k 32 i (nI (wa (S.2.1.2.1 i) f j))) := by
            unfold jX10_tell_21
            rw [e_codeOf hR hi, Option.bind_some, w, Option.bind_some, e_withAnswer (by omega), Option.bind_some, zchk_t (zin_nI (by omega) (by omega)), e_answerAt (hR.2.2 i hi).2.1 (by omega), Option.bind_some, nI_cl (by omega)]
          unfold nX10_tell
          rw [c_needRow hR hi, Option.bind_some, zel_i, c_needField hO hP hf, Option.bind_some, zel_i]
          by_cases q : j = 0
          · subst q
            rw [if_pos nJ_0, ht]
          · rw [if_neg (fun e => q ((nJ_m1 (by omega)).mp e)), show nX10_needValue (nI f) (nJ j) g = some (.inl ()) by rw [nJ_pp (by omega)]; exact c_needValue hO hP hf (by omega), Option.bind_some, zel_i, ht]
        · obtain ⟨⟨pM, _⟩, ⟨p2, p3⟩, _⟩ := id hm2
          obtain ⟨k, w, c1, c2, c3, c4, c5⟩ := m_rmd hO hm2 rfl
          have d3 : mw wRw h (zi k 55 (5 * i + f) (nJ j)) := mw_tr c1 (mw_zi (by unfold wRw; omega) _ _)
          refine ⟨zi k 55 (5 * i + f) (nJ j), nJ (rv (S.2.1.2.1 i) f), ?_, wRw_R d3, rI_rows hm2 d3 ⟨mR_set hO c3 hi hf hj, mH_55 c4⟩, by rw [zi_else _ _ (by omega)]; exact c2, fun _ => rfl⟩
          unfold nX11_tell jX11_tell_42
          have hin : nX11_isIn (nJ j) (-1) (nI (pq S.1 f) - 1) = some 1 := m_inM (by omega) (by
            by_cases q : j = 0
            · rw [q]; exact Or.inl nJ_0
            · exact Or.inr ⟨j - 1, by omega, nJ_pp (by omega)⟩)
          rw [m_isRow p2 hi, Option.bind_some, if_neg n01, m_isField hO pM hf, Option.bind_some, if_neg n01, zchk_t (zin_nI (by omega) (by omega)), nI_cl (by omega), pM.2.2.2.1 f hf, hin, Option.bind_some, if_neg n01, zi_at, if_pos (Int32.le_refl 0), w, Option.bind_some, m_of c3 h5 hi hf, Option.bind_some, show (5 : Int32) * nI i = nI (5 * i) from nI_mul 5 i, nN_add, zchk_t (zin_nI (by omega) (by omega)), nI_cl (by omega)]
      · have c : a 3 ≠ -1 := fun e => hok ⟨0, Nat.zero_le _, by rw [e, nJ_0]⟩
        have hno3 : nIx (a 3) (pq S.1 f) := by
          rcases ix2 (a 3) (n := pq S.1 f) (by omega) with ⟨j, hj, e⟩ | q
          · exact (hok ⟨j + 1, by omega, by rw [nJ_s]; exact e⟩).elim
          · exact q
        rw [e1, e2]
        refine st_q (S := S) (L := nL_tell (nI i) (nI f) (a 3)) (M := nX11_tell (nI i) (nI f) (a 3)) (cd := 2) (an := 0) hc hm ?_ (fun h hm2 => ?_)
        · exact cQ_rs (X := nX10_tell (nI i) (nI f) (a 3)) (e := "java/lang/IllegalArgumentException") (by unfold nX10_tell; rw [c_needRow hR hi, Option.bind_some, zel_i, c_needField hO hP hf, Option.bind_some, zel_i, if_neg c, c_needValueN hO hP hf hno3, Option.bind_some, zel_e]) (fr_rfl _ _) (by rw [if_neg (by decide), if_pos rfl]) n02
        · obtain ⟨⟨pM, _⟩, ⟨p2, p3⟩, _⟩ := id hm2
          unfold nX11_tell jX11_tell_42
          rw [m_isRow p2 hi, Option.bind_some, if_neg n01, m_isField hO pM hf, Option.bind_some, if_neg n01, zchk_t (zin_nI (by omega) (by omega)), nI_cl (by omega), pM.2.2.2.1 f hf, m_outM (by omega) c hno3, Option.bind_some, if_pos rfl, zi_at, if_neg le2]
          exact mQ_err n02
    · rw [e1]
      refine st_q (S := S) (L := nL_tell (nI i) (a 2) (a 3)) (M := nX11_tell (nI i) (a 2) (a 3)) (cd := 1) (an := 0) hc hm ?_ (fun h hm2 => ?_)
      · exact cQ_rs (X := nX10_tell (nI i) (a 2) (a 3)) (by unfold nX10_tell; rw [c_needRow hR hi, Option.bind_some, zel_i, c_needFieldN hP hno2, Option.bind_some, zel_e]) (fr_rfl _ _) (by rw [if_pos rfl]) n01
      · obtain ⟨⟨pM, _⟩, ⟨p2, p3⟩, _⟩ := id hm2
        unfold nX11_tell jX11_tell_17 jX11_tell_42
        rw [m_isRow p2 hi, Option.bind_some, if_neg n01, m_isFieldN hO pM hno2, Option.bind_some, if_pos rfl, zi_at, if_neg le1]
        exact mQ_err n01
  · refine st_q (S := S) (L := nL_tell (a 1) (a 2) (a 3)) (M := nX11_tell (a 1) (a 2) (a 3)) (cd := 1) (an := 0) hc hm ?_ (fun h hm2 => ?_)
    · exact cQ_rs (X := nX10_tell (a 1) (a 2) (a 3)) (by unfold nX10_tell; rw [c_needRowN hR hno, Option.bind_some, zel_e]) (fr_rfl _ _) (by rw [if_pos rfl]) n01
    · obtain ⟨⟨pM, _⟩, ⟨p2, p3⟩, _⟩ := id hm2
      unfold nX11_tell jX11_tell_17 jX11_tell_42
      rw [m_isRowN p2 hno, Option.bind_some, if_pos rfl, zi_at, if_neg le1]
      exact mQ_err n01
end S13
