
/-! ===== steps: box ===== -/
section S20
variable {S S' : zSt} {g h k : zS} {P : zPl}
theorem ly_42 (a : mw Wly g h) (s : Int32) : fr kRf g (zi h 42 0 s) := ly_R (mw_tr a (mw_zi (Or.inl ⟨rfl, Or.inl rfl⟩) _ _))
theorem s_11 (hBD : ∀ S, cI S g → BD S.1) (a : Nat → Int32) (hv : Iv g) : ∃ r, nS_11 a g = some r ∧ Iv r := by
  obtain ⟨S, hc, hm⟩ := hv
  replace hBD := hBD S hc
  have hO := hc.1
  have h5 := hO.1
  have hb : nB S.1 ≤ 30000 := hBD 33554432 (Nat.le_refl _)
  unfold nS_11
  rcases ix2 (a 1) (n := nB S.1) (by omega) with ⟨i, hi, e1⟩ | hno
  · rw [e1]
    obtain ⟨h1, w, a1, hc1, a2⟩ := e_needBox hc hi
    have hP1 := hc1.2.1.1
    have inb : ∀ k, mL S.1 33554432 k → nX11_isIn (nI i) 0 (k.1 42 29 - 1) = some 1 := fun k q => by
      rw [(mL_n hBD hO q).1]
      exact m_in hi (by omega)
    by_cases c : a 2 = -1
    · rw [c]
      refine st_z (S := S) (L := nL_box (nI i) (-1)) (M := nX11_box (nI i) (-1)) (cd := 0) (an := nI (bS (fun f => bk (bX S.1 i) f != 2 ^ pq S.1 f - 1) (pn S.1))) hm ?_ (fun h hm2 => ?_)
      · refine cZ_ls (X := nX10_box (nI i) (-1)) (h := h1) ?_ (kBx_N a1) hc1
        unfold nX10_box
        rw [w, Option.bind_some]
        dsimp only [zel2]
        rw [zchk_t (decide_eq_true a1.2.2), if_pos rfl, e_entering hO hP1 a2 hi, Option.bind_some]
      · obtain ⟨k, wk, b1, b2, b3, b4⟩ := m_boxes hO hm2
        refine ⟨zi k 42 0 0, nI (bS (fun f => bk (bX S.1 i) f != 2 ^ pq S.1 f - 1) (pn S.1)), ?_, ly_42 b1 0, rI_42 0 b2, zi_at _ _ _ _, fun _ => rfl⟩
        have hin : nX11_isIn (-1) (-1) (nI (pn S.1) - 1) = some 1 := m_inM (by omega) (Or.inl rfl)
        unfold nX11_box jX11_box_42
        rw [wk, Option.bind_some, inb k b3, Option.bind_some, if_neg n01, b2.1.1.1, hin, Option.bind_some, if_neg n01, zi_at, if_pos (Int32.le_refl 0), if_pos rfl, m_enters hBD hO (mP_sc (sc_42 k 0) b2.1.1) (mL_42 0 b3) hi, Option.bind_some]
    · rcases ix2 (a 2) (n := pn S.1) (by omega) with ⟨f, hf, e2⟩ | hno2
      · rw [e2]
        rw [e2] at c
        refine st_z (S := S) (L := nL_box (nI i) (nI f)) (M := nX11_box (nI i) (nI f)) (cd := 0) (an := nI (bk (bX S.1 i) f)) hm ?_ (fun h hm2 => ?_)
        · refine cZ_ls (X := nX10_box (nI i) (nI f)) (h := h1) ?_ (kBx_N a1) hc1
          unfold nX10_box
          rw [w, Option.bind_some]
          dsimp only [zel2]
          rw [zchk_t (decide_eq_true a1.2.2), if_neg c, c_needField hO hP1 hf, Option.bind_some, zel_i, e_setOf hO a2 hi hf, Option.bind_some]
        · obtain ⟨k, wk, b1, b2, b3, b4⟩ := m_boxes hO hm2
          refine ⟨zi k 42 0 0, nI (bk (bX S.1 i) f), ?_, ly_42 b1 0, rI_42 0 b2, zi_at _ _ _ _, fun _ => rfl⟩
          unfold nX11_box jX11_box_42
          rw [wk, Option.bind_some, inb k b3, Option.bind_some, if_neg n01, b2.1.1.1, m_inM (by omega) (Or.inr ⟨f, hf, rfl⟩), Option.bind_some, if_neg n01, zi_at, if_pos (Int32.le_refl 0), if_neg c, show (5 : Int32) * nI i = nI (5 * i) from nI_mul 5 i, nN_add, zchk_t (zin_nI (by omega) (by omega)), nI_cl (by omega), mL_at hBD hO (mL_42 0 b3) hi (by omega)]
      · refine st_z (S := S) (L := nL_box (nI i) (a 2)) (M := nX11_box (nI i) (a 2)) (cd := 2) (an := 0) hm ?_ (fun h hm2 => ?_)
        · refine cZ_rs (X := nX10_box (nI i) (a 2)) (h := h1) (e := "java/lang/IndexOutOfBoundsException") ?_ (kBx_N a1) hc1 (by rw [if_neg (by decide), if_pos rfl]) n02
          unfold nX10_box
          rw [w, Option.bind_some]
          dsimp only [zel2]
          rw [zchk_t (decide_eq_true a1.2.2), if_neg c, c_needFieldN hP1 hno2, Option.bind_some, zel_e]
        · obtain ⟨k, wk, b1, b2, b3, b4⟩ := m_boxes hO hm2
          refine ⟨zi k 42 0 2, 0, ?_, ly_42 b1 2, rI_42 2 b2, zi_at _ _ _ _, fun q => absurd q n02⟩
          unfold nX11_box jX11_box_42
          rw [wk, Option.bind_some, inb k b3, Option.bind_some, if_neg n01, b2.1.1.1, m_outM (by omega) c hno2, Option.bind_some, if_pos rfl, zi_at, if_neg le2]
  · obtain ⟨h1, w, a1, hc1⟩ := e_needBoxN hc hno
    refine st_z (S := S) (L := nL_box (a 1) (a 2)) (M := nX11_box (a 1) (a 2)) (cd := 1) (an := 0) hm ?_ (fun h hm2 => ?_)
    · refine cZ_rs (X := nX10_box (a 1) (a 2)) (h := h1) (e := "java/util/NoSuchElementException") ?_ (kBx_N a1) hc1 (by rw [if_pos rfl]) n01
      unfold nX10_box
      rw [w, Option.bind_some]
      dsimp only [zel2]
      rw [zchk_t (decide_eq_true a1.2.2)]
    · obtain ⟨k, wk, b1, b2, b3, b4⟩ := m_boxes hO hm2
      refine ⟨zi k 42 0 1, 0, ?_, ly_42 b1 1, rI_42 1 b2, zi_at _ _ _ _, fun q => absurd q n01⟩
      unfold nX11_box jX11_box_42
      rw [wk, Option.bind_some, (mL_n hBD hO b3).1, m_out (by omega) hno, Option.bind_some, if_pos rfl, zi_at, if_neg le1]
end S20
