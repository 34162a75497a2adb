/-! ===== mender by contract, whole ===== -/
theorem zi_11 {S : zSt} {σ : zS} {n m : Nat} {tb : Nat → Nat} (hc : cI S σ) (e : S = zSF n tb) (hmn : m ≤ n) : cI (zSF m tb) (zi σ 1 1 (nI m)) := by
  subst e
  have hT : cTp n tb σ := hc.2.2.2.1
  have h2 : (zi σ 1 1 (nI m)).1 2 = σ.1 2 := zi_o (by decide)
  refine cI_pu hc ⟨fun c hc => ⟨zi_o (fun z => ?_), rfl⟩, fun z => z, rfl⟩ ⟨?_, by have := hT.2.1; omega, fun q hq => ?_⟩
  · rw [z] at hc
    cases hc
  · rw [zupd]
    rfl
  · rw [h2]
    exact hT.2.2 q (by omega)
theorem mn_beg {l : Launch} (hl0 : l.flags = flags0) {N : Nat} {scr : Nat → Int32} {A B : Nat} : ∃ σ' T, txG T ∧ mnW (zSF 0 (lb T)) T σ' ∧ ∀ x, zHm l N scr x → zK x 11 42 [(4, .int (nI 0)), (3, .int (nI 1)), (2, .ref 46), (1, .ref 0), (0, .ref 1041)] [] (zD ++ zEt) σ' (A + 1) B → zK x 11 0 [(0, .ref 1041)] [] zE_0 zS0 (A + 484) (B + 321936) := by
  obtain ⟨σ1, T, hG1, hU, hag, hC⟩ := c_txt hl0 (σ := zi zFc 42 0 (drw N scr 0 * (31 : Int32) + drw N scr 1))
  have hc0 : cI (zSF 0 (lb T)) (zi zFc 42 0 (drw N scr 0 * (31 : Int32) + drw N scr 1)) := cI_hi (cI_first (lb T)) (fun c hc => ⟨zi_o (by omega), rfl⟩) rfl
  have hc1 : cI (zSF 0 (lb T)) σ1 := cI_hi hc0 (fun c hc => hag.1 c hc (fun z => by cases z)) hag.2
  have h11 : σ1.1 1 1 = nI 0 := hc1.2.2.2.1.1
  have hE0 : nX10_end (nI 0) σ1 = some ((1 : Int32), zi σ1 1 1 (nI 0)) := by
    unfold nX10_end
    rw [if_neg (by decide), if_pos (by rw [h11]; exact Int32.le_refl _)]
  have hE := zC_fr (σ := σ1) zEt_f (fun i hi => by cases hi) (tX10_end hl0 _ σ1 hE0)
  refine ⟨zmix σ1 (zi σ1 1 1 (nI 0)), T, hG1, ⟨cI_mix (zi_11 hc1 rfl (Nat.le_refl 0)), zst_hi (fun c hc => zmix_hi hc) (by decide) (by decide) hU⟩, ?_⟩
  rintro x ⟨hG, hxl, hns, hn0, hsc, hPx⟩ kk
  subst hxl
  refine z_new (pc := 0) (A' := A + 483) (B' := B + 321923) (ci := 8) (fl := [(3, 0), (3, 0), (3, 0), (3, 0), (3, 0), (3, 0), (3, 0), (3, 0), (3, 0), (3, 0), (3, 0), (0, 0), (0, 0)]) hG zc_X10 inX10 tyX10 tyX10_ok w506 w39 w1 (i := 0) rfl (by decide) rfl (fun _ => rfl) rfl (by decide +kernel) rfl rfl (dl' := zE_1) rfl rfl (by omega) dL_mender_0 ?_
  refine z_dup (pc := 3) hG rfl dL_mender_3 ?_
  refine z_specX (pc := 4) (A' := A + 442) (B' := B + 320001) (rest := [.ref 0]) hG hPx 1 [] (ti_X10_init_0 hl0) zy_X10_init rfl w508 w507 dL_mender_4 rfl (Nat.le_of_ble_eq_true rfl) (by decide +kernel) (by decide +kernel) rfl rfl (by omega) (by omega) (Nat.le_of_ble_eq_true rfl) rfl ?_
  rw [zE95]
  show zK x 11 7 [(0, .ref 1041)] [.ref 0] zD zFc (A + 442) (B + 320001)
  refine z_astore_n (pc := 7) (ls' := [(1, .ref 0), (0, .ref 1041)]) hG [0, 1] rfl (by decide) rfl dL_mender_7 ?_
  refine z_new (pc := 8) (A' := A + 441) (B' := B + 320000) (ci := 9) (fl := [(0, 0)]) (i := 42) hG zc_X11 inX11 tyX11 tyX11_ok w784 w785 w10 zD_n (by decide) (zbl_all (M := 42) (by decide +kernel) (by decide) (by decide)) (fun _ => rfl) rfl (by decide +kernel) rfl rfl (dl' := zW1) rfl rfl (by omega) dL_mender_8 ?_
  refine z_dup (pc := 11) hG rfl dL_mender_11 ?_
  refine z_aload_n (pc := 12) hG 1 rfl rfl dL_mender_12 ?_
  refine z_iconst (pc := 13) (v := (0 : Int32)) hG (by decide) dL_mender_13 ?_
  refine z_statH (pc := 14) (A' := A + 441) (B' := B + 320000) (st2 := .int (drw N scr 0) :: [.ref 42, .ref 42]) (v := some (.int (drw N scr 0))) hG hns hsc hPx [.ref 1041, .int (nI 0)] [.ref 42, .ref 42] (c_draw hl0 (by decide)) zy_L_draw w787 w786 dL_mender_14 rfl (Nat.le_of_ble_eq_true rfl) (Nat.le_refl _) rfl rfl (by omega) (by omega) (Nat.le_of_ble_eq_true rfl) rfl rfl ?_
  refine z_bipush (pc := 17) (v := (31 : Int32)) hG (by decide) dL_mender_17 ?_
  refine z_imul (pc := 19) hG dL_mender_19 ?_
  refine z_aload_n (pc := 20) hG 1 rfl rfl dL_mender_20 ?_
  refine z_iconst (pc := 21) (v := (1 : Int32)) hG (by decide) dL_mender_21 ?_
  refine z_statH (pc := 22) (A' := A + 441) (B' := B + 320000) (st2 := .int (drw N scr 1) :: [.int (drw N scr 0 * (31 : Int32)), .ref 42, .ref 42]) (v := some (.int (drw N scr 1))) hG hns hsc hPx [.ref 1041, .int (nI 1)] [.int (drw N scr 0 * (31 : Int32)), .ref 42, .ref 42] (c_draw hl0 (by decide)) zy_L_draw w787 w786 dL_mender_22 rfl (Nat.le_of_ble_eq_true rfl) (Nat.le_refl _) rfl rfl (by omega) (by omega) (Nat.le_of_ble_eq_true rfl) rfl rfl ?_
  refine z_iadd (pc := 25) hG dL_mender_25 ?_
  refine z_spec (pc := 26) (A' := A + 441) (B' := B + 320000) (rest := [.ref 42]) hG 43 [.int (drw N scr 0 * (31 : Int32) + drw N scr 1)] (c_dice hl0 zW1_42) zy_X11_init rfl w791 w790 dL_mender_26 rfl (Nat.le_of_ble_eq_true rfl) (by decide) (Nat.le_refl _) rfl rfl (by omega) (by omega) (Nat.le_of_ble_eq_true rfl) rfl ?_
  refine z_statG (pc := 29) (A' := A + 1) (B' := B) (st2 := [.ref 46]) (v := some (.ref 46)) hG hns [.ref 42] [] hC zy_L_text w799 w798 dL_mender_29 rfl (Nat.le_of_ble_eq_true rfl) (by decide) rfl rfl (by omega) (by omega) (Nat.le_of_ble_eq_true rfl) rfl rfl ?_
  rw [zWt_e]
  refine z_astore_n (pc := 32) (ls' := [(2, .ref 46), (1, .ref 0), (0, .ref 1041)]) hG [0, 1, 2] rfl (by decide) rfl dL_mender_32 ?_
  refine z_aload_n (pc := 33) hG 1 rfl rfl dL_mender_33 ?_
  refine z_iconst (pc := 34) (v := (0 : Int32)) hG (by decide) dL_mender_34 ?_
  refine z_virtS (pc := 35) (A' := A + 1) (B' := B) (st2 := [.int ((1 : Int32))]) (v := some (.int ((1 : Int32)))) hG [.int ((0 : Int32))] [] zc_X10 zEt_0 (hE) zy_X10_end ⟨w1076, w1077⟩ w1075 dL_mender_35 rfl (Nat.le_of_ble_eq_true rfl) (Nat.le_refl _) rfl (zand zoT46 (zand zoT0 (zand (zoks_hi (by decide)) rfl))) rfl rfl (Nat.le_of_ble_eq_true rfl) rfl rfl ?_
  refine z_istore_n (pc := 38) (ls' := [(3, .int ((1 : Int32))), (2, .ref 46), (1, .ref 0), (0, .ref 1041)]) hG [0, 1, 2, 3] rfl (by decide) rfl dL_mender_38 ?_
  refine z_iconst (pc := 39) (v := (0 : Int32)) hG (by decide) dL_mender_39 ?_
  refine z_istore (pc := 40) (ls' := [(4, .int ((0 : Int32))), (3, .int ((1 : Int32))), (2, .ref 46), (1, .ref 0), (0, .ref 1041)]) hG [0, 1, 2, 3, 4] (by decide) rfl dL_mender_40 ?_
  exact kk
/-- what mender makes: some fields of some values, some rows -/
def menO (S : zSt) : Prop := 2 ≤ pn S.1 ∧ pn S.1 ≤ 4 ∧ (∀ f, f < pn S.1 → 2 ≤ pq S.1 f ∧ pq S.1 f ≤ 4) ∧ S.2.1.1 ≤ 8
theorem mn_end {l : Launch} (hl0 : l.flags = flags0) {N : Nat} {scr : Nat → Int32} {T : List Nat} {σ : zS} {k : Nat} (hk : T.length ≤ k) (hk9 : k ≤ 401) (hG1 : txG T) (hm : mnW (zSF k (lb T)) T σ) {A B : Nat} : ∃ σ' S, cI S σ' ∧ menO S ∧ ∀ x, zHm l N scr x → ztg x = (.inl (some (.ref 0)), zD ++ zEt, σ') → zK x 11 42 [(4, .int (nI k)), (3, .int (nI 1)), (2, .ref 46), (1, .ref 0), (0, .ref 1041)] [] (zD ++ zEt) σ (A + 1) (B + 6) := by
  have hT := hm.2
  have h1000 := hT.2.2.1
  have hcI := hm.1
  have h11 : σ.1 1 1 = nI k := hcI.2.2.2.1.1
  have hE0 : nX10_end (nI T.length) σ = some ((1 : Int32), zi σ 1 1 (nI T.length)) := by
    unfold nX10_end
    rw [if_neg (nI_nn (by omega)), if_pos (by rw [h11]; exact nI_le hk (by omega))]
  have hE := zC_fr (σ := σ) zEt_f (fun i hi => by cases hi) (tX10_end hl0 _ σ hE0)
  have hc2 : cI (zSF T.length (lb T)) (zmix σ (zi σ 1 1 (nI T.length))) := cI_mix (zi_11 hcI rfl hk)
  obtain ⟨Kt, n, many, G, e, kr, hn2, hn4, hmn, hk8, he4, hgS, hnb, hl382⟩ := hG1
  obtain ⟨P, Nr, r, hsh, hrd⟩ := gS_end hgS hnb
  obtain ⟨q, hq, hcq, -⟩ := c_read hc2 rfl rfl hrd (by rw [hsh.1]; omega)
  have hR0 : zC l yX10_read cX10_read 3 (Option.some Jvm.ClassFile.FieldType.int) 9 1 6 [.ref 0] zD (zmix σ (zi σ 1 1 (nI T.length))) (.inl (some (.int (nI Nr))), zD, q) := tX10_read hl0 _ hq
  have hR := zC_fr (σ := zmix σ (zi σ 1 1 (nI T.length))) zEt_f (fun i hi => by cases hi) hR0
  refine ⟨zmix (zmix σ (zi σ 1 1 (nI T.length))) q, _, cI_mix hcq, ⟨by show 2 ≤ pn P; rw [hsh.1]; exact hn2, by show pn P ≤ 4; rw [hsh.1]; exact hn4, fun f hf => ?_, by show Nr ≤ 8; rw [hsh.2.2.2.2]; exact hk8⟩, ?_⟩
  · show 2 ≤ pq P f ∧ pq P f ≤ 4
    have hf : f < pn P := hf
    rw [hsh.1] at hf
    rw [(hsh.2.1 f hf).2]
    exact hmn f hf
  rintro x ⟨hG, hxl, hns, hn0, hsc, hPx⟩ htg
  subst hxl
  refine z_iload (pc := 42) hG 0 rfl dL_mender_42 ?_
  refine z_aload_n (pc := 44) hG 2 rfl rfl dL_mender_44 ?_
  refine z_virtS (pc := 45) (A' := A + 1) (B' := B + 6) (st2 := [.int ((nI T.length)), .int ((nI k))]) (v := some (.int ((nI T.length)))) hG [] [.int ((nI k))] zc_J0 zEt_46 (c_lenM hl0 zEt_M hT.1 hT.2.1) zy_J0_length_8abf5 ⟨w908, w909⟩ w1079 dL_mender_45 rfl (Nat.le_of_ble_eq_true rfl) (Nat.le_refl _) (zand rfl rfl) (zand rfl (zand rfl (zand zoT46 (zand zoT0 (zand (zoks_hi (by decide)) rfl))))) rfl rfl (Nat.le_of_ble_eq_true rfl) rfl rfl ?_
  refine z_icmp_ge (pc := 48) (tgt := 146) hG dL_mender_48 rfl (fun _ => ?_) (fun hbr => False.elim (hbr (nI_le hk (by omega))))
  refine z_aload_n (pc := 146) hG 3 rfl rfl dL_mender_146 ?_
  refine z_aload_n (pc := 147) hG 2 rfl rfl dL_mender_147 ?_
  refine z_virtS (pc := 148) (A' := A + 1) (B' := B + 6) (st2 := [.int ((nI T.length)), .ref 0]) (v := some (.int ((nI T.length)))) hG [] [.ref 0] zc_J0 zEt_46 (c_lenM hl0 zEt_M hT.1 hT.2.1) zy_J0_length_8abf5 ⟨w908, w909⟩ w1079 dL_mender_148 rfl (Nat.le_of_ble_eq_true rfl) (Nat.le_refl _) (zand zoT0 rfl) (zand rfl (zand rfl (zand zoT46 (zand zoT0 (zand (zoks_hi (by decide)) rfl))))) rfl rfl (Nat.le_of_ble_eq_true rfl) rfl rfl ?_
  refine z_virtS (pc := 151) (A' := A + 1) (B' := B + 6) (st2 := [.int ((1 : Int32))]) (v := some (.int ((1 : Int32)))) hG [.int ((nI T.length))] [] zc_X10 zEt_0 (hE) zy_X10_end ⟨w1076, w1077⟩ w1075 dL_mender_151 rfl (Nat.le_of_ble_eq_true rfl) (Nat.le_refl _) rfl (zand rfl (zand rfl (zand zoT46 (zand zoT0 (zand (zoks_hi (by decide)) rfl))))) rfl rfl (Nat.le_of_ble_eq_true rfl) rfl rfl ?_
  refine z_istore_n (pc := 154) (ls' := [(3, .int ((1 : Int32))), (4, .int ((nI k))), (2, .ref 46), (1, .ref 0), (0, .ref 1041)]) hG [0, 1, 2, 3, 4] rfl (by decide) rfl dL_mender_154 ?_
  refine z_aload_n (pc := 155) hG 3 rfl rfl dL_mender_155 ?_
  refine z_virtS (pc := 156) (A' := A) (B' := B) (st2 := [.int ((nI Nr))]) (v := some (.int ((nI Nr)))) hG [] [] zc_X10 zEt_0 (hR) zy_X10_read ⟨w1108, w1109⟩ w1107 dL_mender_156 rfl (Nat.le_of_ble_eq_true rfl) (Nat.le_refl _) rfl (zand rfl (zand rfl (zand zoT46 (zand zoT0 (zand (zoks_hi (by decide)) rfl))))) rfl rfl (Nat.le_of_ble_eq_true rfl) rfl rfl ?_
  refine z_istore (pc := 159) (ls' := [(4, .int ((nI Nr))), (3, .int ((1 : Int32))), (2, .ref 46), (1, .ref 0), (0, .ref 1041)]) hG [0, 1, 2, 3, 4] (by decide) rfl dL_mender_159 ?_
  refine z_aload_n (pc := 161) hG 3 rfl rfl dL_mender_161 ?_
  exact z_areto (pc := 162) hG rfl htg dL_mender_162
theorem c_men {l : Launch} (hl0 : l.flags = flags0) {N : Nat} {scr : Nat → Int32} : ∃ σ' S, cI S σ' ∧ menO S ∧ zCh l N scr yL_mender cL_mender 7 (Option.some (Jvm.ClassFile.FieldType.object "EditMender")) 11 510 322100 [.ref 1041] zE_0 zS0 (.inl (some (.ref 0)), zD ++ zEt, σ') := by
  obtain ⟨σ1, T, hG1, hm1, k1⟩ := mn_beg hl0 (N := N) (scr := scr) (A := 26) (B := 164)
  have hl : T.length ≤ 382 := by
    obtain ⟨Kt, n, many, G, e, kr, hn2, hn4, hmn, hk8, he4, hgS, hnb, hl382⟩ := hG1
    exact hl382
  obtain ⟨σ2, k, hk1, hk2, hm2, k2⟩ := mn_blocks hl0 (N := N) (scr := scr) hl 20 0 σ1 rfl (by omega) (by omega) hm1 1 6
  obtain ⟨σ3, S, hc, hO, k3⟩ := mn_end hl0 (N := N) (scr := scr) hk1 hk2 hG1 hm2 (A := 0) (B := 0)
  refine ⟨σ3, S, hc, hO, ?_⟩
  refine zCh_of hl0 rfl (Nat.le_of_ble_eq_true rfl) (fun x hG hxl hk hns hn0 hsc hPx => ?_)
  have hx : zHm l N scr x := ⟨hG, hxl, hns, hn0, hsc, hPx⟩
  exact k1 x hx (z_wk (A' := 1 + 20) (B' := 6 + 5 * 20) (by omega) (by omega) (k2 x hx (k3 x hx hk)))
