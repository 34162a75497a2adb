/-! ===== the law's walk: how a row would be mended ===== -/

theorem dq_one {l : Launch} (hl0 : l.flags = flags0) {S : zSt} {σ : zS} {c i : Nat} (hB : lwB S c i) (hW : lwW S c i σ) {v8 : Int32} {D w f : Nat} (hD : D < 2147483648) (hb16 : ls S.1 (S.2.1.2.1 i) < 16) (hd : ∀ f, f < pn S.1 → (ls S.1 (S.2.1.2.1 i)).testBit f = false → rv (S.2.1.2.1 i) f ≠ 0 ∧ dxt D (pn S.1) f = rv (S.2.1.2.1 i) f - 1) (hf : f < pn S.1) {A B : Nat} : ∀ x, zG x cL_law 18 RL ret ∧ zl0 x = l → zK x 70 790 [(14, .int (nJ f)), (13, .int (nI (D / 10 ^ (pn S.1 - f)))), (12, .int (nI D)), (11, .int (nI w)), (9, .int (nI (cnt (lsB S.1 (S.2.1.2.1 i)) (2 ^ pn S.1)))), (8, .int v8), (7, .int (nI (ls S.1 (S.2.1.2.1 i)))), (6, .int (nI (rmis (S.2.1.2.1 i) (pn S.1)))), (5, .ref (49 + c)), (4, .int (nI i)), (3, .ref 48), (2, .int (nI (pn S.1))), (1, .ref 0), (0, .ref 1041)] [] (zD ++ zEg c (pn S.1)) σ A B → zK x 70 790 [(14, .int (nI f)), (13, .int (nI (D / 10 ^ (pn S.1 - (f + 1))))), (12, .int (nI D)), (11, .int (nI w)), (9, .int (nI (cnt (lsB S.1 (S.2.1.2.1 i)) (2 ^ pn S.1)))), (8, .int v8), (7, .int (nI (ls S.1 (S.2.1.2.1 i)))), (6, .int (nI (rmis (S.2.1.2.1 i) (pn S.1)))), (5, .ref (49 + c)), (4, .int (nI i)), (3, .ref 48), (2, .int (nI (pn S.1))), (1, .ref 0), (0, .ref 1041)] [] (zD ++ zEg c (pn S.1)) σ A B := by
  have hn4 := hB.1.2.1
  have hr8 := rv_lt8 (S.2.1.2.1 i) f
  have hdv : nI (D / 10 ^ (pn S.1 - (f + 1))) / nI 10 = nI (D / 10 ^ (pn S.1 - f)) := (nI_div (p10_lt hD _) (by decide)).trans (congrArg nI ((p10_s _ _).trans (by rw [show pn S.1 - (f + 1) + 1 = pn S.1 - f from by omega])))
  rintro x ⟨hG, hxl⟩ kk
  subst hxl
  refine z_iload (pc := 790) hG 0 rfl dL_law_790 ?_
  refine z_if_lt (pc := 792) (tgt := 833) hG dL_law_792 rfl (fun hbr => False.elim ((fun h => nI_nn (by omega) h) hbr)) (fun _ => ?_)
  refine z_iload (pc := 795) hG 6 rfl dL_law_795 ?_
  refine z_iload (pc := 797) hG 0 rfl dL_law_797 ?_
  refine z_ishr (pc := 799) hG dL_law_799 ?_
  refine z_iconst (pc := 800) (v := (1 : Int32)) hG (by decide) dL_law_800 ?_
  refine z_iand (pc := 801) hG dL_law_801 ?_
  by_cases hb : (ls S.1 (S.2.1.2.1 i)).testBit f = true
  · rw [show (((nI (ls S.1 (S.2.1.2.1 i))) >>> ((nI f) &&& 31)) &&& (1 : Int32)) = (nI 1) from bit_y (by omega) (by omega) hb]
    refine z_if_ne (pc := 802) (tgt := 820) hG dL_law_802 rfl (fun _ => ?_) (fun hbr => False.elim ((fun h => absurd h (by decide)) hbr))
    refine z_iload (pc := 820) hG 1 rfl dL_law_820 ?_
    refine z_bipush (pc := 822) (v := (10 : Int32)) hG (by decide) dL_law_822 ?_
    refine z_idiv (pc := 824) hG (by decide) dL_law_824 ?_
    rw [show ((nI (D / 10 ^ (pn S.1 - (f + 1)))) / (10 : Int32)) = (nI (D / 10 ^ (pn S.1 - f))) from hdv]
    refine z_istore (pc := 825) (ls' := [(13, .int ((nI (D / 10 ^ (pn S.1 - f))))), (14, .int ((nI f))), (12, .int ((nI D))), (11, .int ((nI w))), (9, .int ((nI (cnt (lsB S.1 (S.2.1.2.1 i)) (2 ^ pn S.1))))), (8, .int v8), (7, .int ((nI (ls S.1 (S.2.1.2.1 i))))), (6, .int ((nI (rmis (S.2.1.2.1 i) (pn S.1))))), (5, .ref (49 + c)), (4, .int ((nI i))), (3, .ref 48), (2, .int ((nI (pn S.1)))), (1, .ref 0), (0, .ref 1041)]) hG [0, 1, 2, 3, 4, 5, 6, 7, 8, 9, 10, 11, 12, 13] (by decide) rfl dL_law_825 ?_
    refine z_iinc (pc := 827) (v := (nJ f)) (ls' := [(14, .int ((nJ f))), (13, .int ((nI (D / 10 ^ (pn S.1 - f))))), (12, .int ((nI D))), (11, .int ((nI w))), (9, .int ((nI (cnt (lsB S.1 (S.2.1.2.1 i)) (2 ^ pn S.1))))), (8, .int v8), (7, .int ((nI (ls S.1 (S.2.1.2.1 i))))), (6, .int ((nI (rmis (S.2.1.2.1 i) (pn S.1))))), (5, .ref (49 + c)), (4, .int ((nI i))), (3, .ref 48), (2, .int ((nI (pn S.1)))), (1, .ref 0), (0, .ref 1041)]) hG 1 rfl [0, 1, 2, 3, 4, 5, 6, 7, 8, 9, 10, 11, 12, 13] (nJ_dec) (by decide) rfl dL_law_827 ?_
    refine z_goto (pc := 830) (tgt := 790) hG dL_law_830 rfl ?_
    refine z_sub (ls' := [(14, .int (nJ f)), (13, .int (nI (D / 10 ^ (pn S.1 - f)))), (12, .int (nI D)), (11, .int (nI w)), (9, .int (nI (cnt (lsB S.1 (S.2.1.2.1 i)) (2 ^ pn S.1)))), (8, .int v8), (7, .int (nI (ls S.1 (S.2.1.2.1 i)))), (6, .int (nI (rmis (S.2.1.2.1 i) (pn S.1)))), (5, .ref (49 + c)), (4, .int (nI i)), (3, .ref 48), (2, .int (nI (pn S.1))), (1, .ref 0), (0, .ref 1041)]) [0, 1, 2, 3, 4, 5, 6, 7, 8, 9, 10, 11, 12, 13] rfl ?_
    exact kk
  · have hb : (ls S.1 (S.2.1.2.1 i)).testBit f = false := by
      cases h : (ls S.1 (S.2.1.2.1 i)).testBit f
      · rfl
      · exact absurd h hb
    obtain ⟨hr0, hdx0⟩ := hd f hf hb
    have hdx : D / 10 ^ (pn S.1 - (f + 1)) % 10 = rv (S.2.1.2.1 i) f - 1 := by
      rw [← hdx0, show pn S.1 - (f + 1) = pn S.1 - 1 - f from by omega]
      rfl
    rw [show (((nI (ls S.1 (S.2.1.2.1 i))) >>> ((nI f) &&& 31)) &&& (1 : Int32)) = (nI 0) from bit_n (by omega) (by omega) hb]
    refine z_if_ne (pc := 802) (tgt := 820) hG dL_law_802 rfl (fun hbr => False.elim ((fun h => h rfl) hbr)) (fun _ => ?_)
    refine z_iload (pc := 805) hG 1 rfl dL_law_805 ?_
    refine z_bipush (pc := 807) (v := (10 : Int32)) hG (by decide) dL_law_807 ?_
    refine z_irem (pc := 809) hG (by decide) dL_law_809 ?_
    rw [show ((nI (D / 10 ^ (pn S.1 - (f + 1)))) - (nI (D / 10 ^ (pn S.1 - (f + 1)))) / (10 : Int32) * (10 : Int32)) = (nI (D / 10 ^ (pn S.1 - (f + 1)) % 10)) from pk_rem (p10_lt hD _) (by decide) (by decide)]
    refine z_aload (pc := 810) hG 8 rfl dL_law_810 ?_
    refine z_iload (pc := 812) hG 0 rfl dL_law_812 ?_
    refine z_iald (pc := 814) hG (zEg_N _ _) (vp_in_nI hf (by omega)) dL_law_814 ?_
    rw [nI_clamp (show f < 2 ^ 31 by omega), hW.2.2 f hf, nJ_n0 hr0]
    refine z_icmp_eq (pc := 815) (tgt := 820) hG dL_law_815 rfl (fun _ => ?_) (fun hbr => False.elim (hbr (congrArg nI hdx)))
    refine z_iload (pc := 820) hG 1 rfl dL_law_820 ?_
    refine z_bipush (pc := 822) (v := (10 : Int32)) hG (by decide) dL_law_822 ?_
    refine z_idiv (pc := 824) hG (by decide) dL_law_824 ?_
    rw [show ((nI (D / 10 ^ (pn S.1 - (f + 1)))) / (10 : Int32)) = (nI (D / 10 ^ (pn S.1 - f))) from hdv]
    refine z_istore (pc := 825) (ls' := [(13, .int ((nI (D / 10 ^ (pn S.1 - f))))), (14, .int ((nI f))), (12, .int ((nI D))), (11, .int ((nI w))), (9, .int ((nI (cnt (lsB S.1 (S.2.1.2.1 i)) (2 ^ pn S.1))))), (8, .int v8), (7, .int ((nI (ls S.1 (S.2.1.2.1 i))))), (6, .int ((nI (rmis (S.2.1.2.1 i) (pn S.1))))), (5, .ref (49 + c)), (4, .int ((nI i))), (3, .ref 48), (2, .int ((nI (pn S.1)))), (1, .ref 0), (0, .ref 1041)]) hG [0, 1, 2, 3, 4, 5, 6, 7, 8, 9, 10, 11, 12, 13] (by decide) rfl dL_law_825 ?_
    refine z_iinc (pc := 827) (v := (nJ f)) (ls' := [(14, .int ((nJ f))), (13, .int ((nI (D / 10 ^ (pn S.1 - f))))), (12, .int ((nI D))), (11, .int ((nI w))), (9, .int ((nI (cnt (lsB S.1 (S.2.1.2.1 i)) (2 ^ pn S.1))))), (8, .int v8), (7, .int ((nI (ls S.1 (S.2.1.2.1 i))))), (6, .int ((nI (rmis (S.2.1.2.1 i) (pn S.1))))), (5, .ref (49 + c)), (4, .int ((nI i))), (3, .ref 48), (2, .int ((nI (pn S.1)))), (1, .ref 0), (0, .ref 1041)]) hG 1 rfl [0, 1, 2, 3, 4, 5, 6, 7, 8, 9, 10, 11, 12, 13] (nJ_dec) (by decide) rfl dL_law_827 ?_
    refine z_goto (pc := 830) (tgt := 790) hG dL_law_830 rfl ?_
    refine z_sub (ls' := [(14, .int (nJ f)), (13, .int (nI (D / 10 ^ (pn S.1 - f)))), (12, .int (nI D)), (11, .int (nI w)), (9, .int (nI (cnt (lsB S.1 (S.2.1.2.1 i)) (2 ^ pn S.1)))), (8, .int v8), (7, .int (nI (ls S.1 (S.2.1.2.1 i)))), (6, .int (nI (rmis (S.2.1.2.1 i) (pn S.1)))), (5, .ref (49 + c)), (4, .int (nI i)), (3, .ref 48), (2, .int (nI (pn S.1))), (1, .ref 0), (0, .ref 1041)]) [0, 1, 2, 3, 4, 5, 6, 7, 8, 9, 10, 11, 12, 13] rfl ?_
    exact kk
theorem dq_all {l : Launch} (hl0 : l.flags = flags0) {S : zSt} {σ : zS} {c i : Nat} (hB : lwB S c i) (hW : lwW S c i σ) {v8 : Int32} {D w : Nat} (hD : D < 2147483648) (hb16 : ls S.1 (S.2.1.2.1 i) < 16) (hd : ∀ f, f < pn S.1 → (ls S.1 (S.2.1.2.1 i)).testBit f = false → rv (S.2.1.2.1 i) f ≠ 0 ∧ dxt D (pn S.1) f = rv (S.2.1.2.1 i) f - 1) {A B : Nat} : ∀ (k V : Nat), k ≤ pn S.1 → V = D / 10 ^ (pn S.1 - k) → ∀ x, zG x cL_law 18 RL ret ∧ zl0 x = l → zK x 70 833 [(11, .int (nI w)), (9, .int (nI (cnt (lsB S.1 (S.2.1.2.1 i)) (2 ^ pn S.1)))), (8, .int v8), (7, .int (nI (ls S.1 (S.2.1.2.1 i)))), (6, .int (nI (rmis (S.2.1.2.1 i) (pn S.1)))), (5, .ref (49 + c)), (4, .int (nI i)), (3, .ref 48), (2, .int (nI (pn S.1))), (1, .ref 0), (0, .ref 1041)] [] (zD ++ zEg c (pn S.1)) σ A B → zK x 70 790 [(14, .int (nJ k)), (13, .int (nI V)), (12, .int (nI D)), (11, .int (nI w)), (9, .int (nI (cnt (lsB S.1 (S.2.1.2.1 i)) (2 ^ pn S.1)))), (8, .int v8), (7, .int (nI (ls S.1 (S.2.1.2.1 i)))), (6, .int (nI (rmis (S.2.1.2.1 i) (pn S.1)))), (5, .ref (49 + c)), (4, .int (nI i)), (3, .ref 48), (2, .int (nI (pn S.1))), (1, .ref 0), (0, .ref 1041)] [] (zD ++ zEg c (pn S.1)) σ A B
  | 0, V, hk, hV, x, hx, kk => by
    have hG := hx.1
    refine z_iload (pc := 790) hG 0 rfl dL_law_790 ?_
    refine z_if_lt (pc := 792) (tgt := 833) hG dL_law_792 rfl (fun _ => ?_) (fun hbr => False.elim (hbr (by decide)))
    refine z_sub (ls' := [(11, .int (nI w)), (9, .int (nI (cnt (lsB S.1 (S.2.1.2.1 i)) (2 ^ pn S.1)))), (8, .int v8), (7, .int (nI (ls S.1 (S.2.1.2.1 i)))), (6, .int (nI (rmis (S.2.1.2.1 i) (pn S.1)))), (5, .ref (49 + c)), (4, .int (nI i)), (3, .ref 48), (2, .int (nI (pn S.1))), (1, .ref 0), (0, .ref 1041)]) [3, 4, 5, 6, 7, 8, 9, 10, 11, 12, 13] rfl ?_
    exact kk
  | f + 1, V, hk, hV, x, hx, kk => by
    subst hV
    rw [nJ_s1]
    exact dq_one hl0 hB hW hD hb16 hd (by omega) x hx (dq_all hl0 hB hW hD hb16 hd f _ (by omega) rfl x hx kk)
theorem wd_tl {l : Launch} (hl0 : l.flags = flags0) {S : zSt} {σ : zS} {c i : Nat} {v7 v8 : Int32} {w : Nat} {A B : Nat} : ∀ x, zG x cL_law 18 RL ret ∧ zl0 x = l → zK x 70 715 [(11, .int (nI (w + 1))), (9, .int (nI (cnt (lsB S.1 (S.2.1.2.1 i)) (2 ^ pn S.1)))), (8, .int v8), (7, .int v7), (6, .int (nI (rmis (S.2.1.2.1 i) (pn S.1)))), (5, .ref (49 + c)), (4, .int (nI i)), (3, .ref 48), (2, .int (nI (pn S.1))), (1, .ref 0), (0, .ref 1041)] [] (zD ++ zEg c (pn S.1)) σ A B → zK x 70 833 [(11, .int (nI w)), (9, .int (nI (cnt (lsB S.1 (S.2.1.2.1 i)) (2 ^ pn S.1)))), (8, .int v8), (7, .int v7), (6, .int (nI (rmis (S.2.1.2.1 i) (pn S.1)))), (5, .ref (49 + c)), (4, .int (nI i)), (3, .ref 48), (2, .int (nI (pn S.1))), (1, .ref 0), (0, .ref 1041)] [] (zD ++ zEg c (pn S.1)) σ A B := by
  rintro x ⟨hG, hxl⟩ kk
  subst hxl
  refine z_iinc (pc := 833) (v := (nI (w + 1))) (ls' := [(11, .int ((nI (w + 1)))), (9, .int ((nI (cnt (lsB S.1 (S.2.1.2.1 i)) (2 ^ pn S.1))))), (8, .int v8), (7, .int v7), (6, .int ((nI (rmis (S.2.1.2.1 i) (pn S.1))))), (5, .ref (49 + c)), (4, .int ((nI i))), (3, .ref 48), (2, .int ((nI (pn S.1)))), (1, .ref 0), (0, .ref 1041)]) hG 0 rfl [0, 1, 2, 3, 4, 5, 6, 7, 8, 9, 10] (nI_1s) (by decide) rfl dL_law_833 ?_
  refine z_goto (pc := 836) (tgt := 715) hG dL_law_836 rfl ?_
  exact kk
theorem wd_one {l : Launch} (hl0 : l.flags = flags0) {S : zSt} {σ : zS} {c i : Nat} (hB : lwB S c i) (hW : lwW S c i σ) {v8 : Int32} {w : Nat} (hw : w < 3) : ∃ σ', lwW S c i σ' ∧ hiE σ σ' ∧ σ.2.2.2 ≤ σ'.2.2.2 ∧ ∀ (A B : Nat) x, zG x cL_law 18 RL ret ∧ zl0 x = l → zK x 70 715 [(11, .int (nI (w + 1))), (9, .int (nI (cnt (lsB S.1 (S.2.1.2.1 i)) (2 ^ pn S.1)))), (8, .int v8), (7, .int (sI (ls S.1 (S.2.1.2.1 i)))), (6, .int (nI (rmis (S.2.1.2.1 i) (pn S.1)))), (5, .ref (49 + c)), (4, .int (nI i)), (3, .ref 48), (2, .int (nI (pn S.1))), (1, .ref 0), (0, .ref 1041)] [] (zD ++ zEg c (pn S.1)) σ' A B → zK x 70 715 [(11, .int (nI w)), (9, .int (nI (cnt (lsB S.1 (S.2.1.2.1 i)) (2 ^ pn S.1)))), (8, .int v8), (7, .int (sI (ls S.1 (S.2.1.2.1 i)))), (6, .int (nI (rmis (S.2.1.2.1 i) (pn S.1)))), (5, .ref (49 + c)), (4, .int (nI i)), (3, .ref 48), (2, .int (nI (pn S.1))), (1, .ref 0), (0, .ref 1041)] [] (zD ++ zEg c (pn S.1)) σ (A + 3) (B + 18) := by
  obtain ⟨σ', hc2, hh, hcap, hC⟩ := q_would hl0 (zEg_f c (pn S.1)) hW.1 hB.p0 hB.2.2 hw
  have hW' := lwW_hi hW hc2 hh
  refine ⟨σ', hW', hh, hcap, ?_⟩
  rintro A B x ⟨hG, hxl⟩ kk
  subst hxl
  have hn4 := hB.1.2.1
  have hO := hW.1.1
  have hr : ∀ k, k < S.2.1.1 → rOK S.1 (S.2.1.2.1 k) := fun k hk => (hW.1.2.2.1.1.2.2 k hk).2
  refine z_iload (pc := 715) hG 0 rfl dL_law_715 ?_
  refine z_iconst (pc := 717) (v := (3 : Int32)) hG (by decide) dL_law_717 ?_
  refine z_icmp_ge (pc := 718) (tgt := 839) hG dL_law_718 rfl (fun hbr => False.elim ((fun h => nI_nle2 hw (by decide) h) hbr)) (fun _ => ?_)
  refine z_aload_n (pc := 721) hG 9 rfl rfl dL_law_721 ?_
  refine z_iload (pc := 722) hG 6 rfl dL_law_722 ?_
  refine z_iload (pc := 724) hG 0 rfl dL_law_724 ?_
  refine z_virtS (pc := 726) (A' := A + 1) (B' := B + 6) (st2 := [.int ((wdA S i w))]) (v := some (.int ((wdA S i w)))) hG [.int ((nI i)), .int ((nI w))] [] zc_X10 (zEo_0 _) (hC) zy_X10_would ⟨w406, w407⟩ w405 dL_law_726 rfl (Nat.le_of_ble_eq_true rfl) (Nat.le_refl _) rfl (zand rfl (zand rfl (zand rfl (zand rfl (zand rfl (zand (zog_N _ _) (zand rfl (zand (zog_48 _ _) (zand rfl (zand (zo_0 _) (zand (zoks_hi (by decide)) rfl))))))))))) rfl rfl (Nat.le_of_ble_eq_true rfl) rfl rfl ?_
  refine z_istore (pc := 729) (ls' := [(12, .int ((wdA S i w))), (11, .int ((nI w))), (9, .int ((nI (cnt (lsB S.1 (S.2.1.2.1 i)) (2 ^ pn S.1))))), (8, .int v8), (7, .int ((sI (ls S.1 (S.2.1.2.1 i))))), (6, .int ((nI (rmis (S.2.1.2.1 i) (pn S.1))))), (5, .ref (49 + c)), (4, .int ((nI i))), (3, .ref 48), (2, .int ((nI (pn S.1)))), (1, .ref 0), (0, .ref 1041)]) hG [0, 1, 2, 3, 4, 5, 6, 7, 8, 9, 10, 11] (by decide) rfl dL_law_729 ?_
  by_cases hm : mdd S.1 S.2.1.2.1 S.2.1.1 i w = 99999
  · rw [show wdA S i w = (-1 : Int32) from if_pos hm]
    by_cases h99 : ls S.1 (S.2.1.2.1 i) = 99
    · have hneg : sI (ls S.1 (S.2.1.2.1 i)) < 0 := by rw [h99]; decide
      by_cases hw2 : w = 2
      · refine z_iload (pc := 731) hG 0 rfl dL_law_731 ?_
        refine z_if_lt (pc := 733) (tgt := 745) hG dL_law_733 rfl (fun _ => ?_) (fun hbr => False.elim (hbr (by decide)))
        refine z_iload (pc := 745) hG 4 rfl dL_law_745 ?_
        refine z_if_ge (pc := 747) (tgt := 755) hG dL_law_747 rfl (fun hbr => False.elim ((fun h => absurd hneg (Int32.not_lt.mpr h)) hbr)) (fun _ => ?_)
        refine z_iload (pc := 750) hG 0 rfl dL_law_750 ?_
        refine z_if_ge (pc := 752) (tgt := 771) hG dL_law_752 rfl (fun hbr => False.elim ((fun h => absurd h (by decide)) hbr)) (fun _ => ?_)
        refine z_iload (pc := 755) hG 1 rfl dL_law_755 ?_
        refine z_iconst (pc := 757) (v := (2 : Int32)) hG (by decide) dL_law_757 ?_
        refine z_icmp_ne (pc := 758) (tgt := 773) hG dL_law_758 rfl (fun hbr => False.elim ((fun h => h (congrArg nI hw2)) hbr)) (fun _ => ?_)
        refine z_iload (pc := 761) hG 4 rfl dL_law_761 ?_
        refine z_if_lt (pc := 763) (tgt := 773) hG dL_law_763 rfl (fun _ => ?_) (fun hbr => False.elim (hbr (hneg)))
        refine z_iload (pc := 773) hG 0 rfl dL_law_773 ?_
        refine z_if_ge (pc := 775) (tgt := 781) hG dL_law_775 rfl (fun hbr => False.elim ((fun h => absurd h (by decide)) hbr)) (fun _ => ?_)
        refine z_goto (pc := 778) (tgt := 833) hG dL_law_778 rfl ?_
        refine z_sub (ls' := [(11, .int (nI w)), (9, .int (nI (cnt (lsB S.1 (S.2.1.2.1 i)) (2 ^ pn S.1)))), (8, .int v8), (7, .int (sI (ls S.1 (S.2.1.2.1 i)))), (6, .int (nI (rmis (S.2.1.2.1 i) (pn S.1)))), (5, .ref (49 + c)), (4, .int (nI i)), (3, .ref 48), (2, .int (nI (pn S.1))), (1, .ref 0), (0, .ref 1041)]) [1, 2, 3, 4, 5, 6, 7, 8, 9, 10, 11] rfl ?_
        exact z_wk (by omega) (by omega) (wd_tl hl0 _ ⟨hG, rfl⟩ kk)
      · refine z_iload (pc := 731) hG 0 rfl dL_law_731 ?_
        refine z_if_lt (pc := 733) (tgt := 745) hG dL_law_733 rfl (fun _ => ?_) (fun hbr => False.elim (hbr (by decide)))
        refine z_iload (pc := 745) hG 4 rfl dL_law_745 ?_
        refine z_if_ge (pc := 747) (tgt := 755) hG dL_law_747 rfl (fun hbr => False.elim ((fun h => absurd hneg (Int32.not_lt.mpr h)) hbr)) (fun _ => ?_)
        refine z_iload (pc := 750) hG 0 rfl dL_law_750 ?_
        refine z_if_ge (pc := 752) (tgt := 771) hG dL_law_752 rfl (fun hbr => False.elim ((fun h => absurd h (by decide)) hbr)) (fun _ => ?_)
        refine z_iload (pc := 755) hG 1 rfl dL_law_755 ?_
        refine z_iconst (pc := 757) (v := (2 : Int32)) hG (by decide) dL_law_757 ?_
        refine z_icmp_ne (pc := 758) (tgt := 773) hG dL_law_758 rfl (fun _ => ?_) (fun hbr => False.elim ((nI_neq (by omega) (by decide) hw2) hbr))
        refine z_iload (pc := 773) hG 0 rfl dL_law_773 ?_
        refine z_if_ge (pc := 775) (tgt := 781) hG dL_law_775 rfl (fun hbr => False.elim ((fun h => absurd h (by decide)) hbr)) (fun _ => ?_)
        refine z_goto (pc := 778) (tgt := 833) hG dL_law_778 rfl ?_
        refine z_sub (ls' := [(11, .int (nI w)), (9, .int (nI (cnt (lsB S.1 (S.2.1.2.1 i)) (2 ^ pn S.1)))), (8, .int v8), (7, .int (sI (ls S.1 (S.2.1.2.1 i)))), (6, .int (nI (rmis (S.2.1.2.1 i) (pn S.1)))), (5, .ref (49 + c)), (4, .int (nI i)), (3, .ref 48), (2, .int (nI (pn S.1))), (1, .ref 0), (0, .ref 1041)]) [1, 2, 3, 4, 5, 6, 7, 8, 9, 10, 11] rfl ?_
        exact z_wk (by omega) (by omega) (wd_tl hl0 _ ⟨hG, rfl⟩ kk)
    · have hw2 : w ≠ 2 := fun q => by
        subst q
        exact lw_mdd2 hO hB.2.2 hr h99 hm
      have hls : ls S.1 (S.2.1.2.1 i) < 2 ^ pn S.1 := ((ls_spec hO (S.2.1.2.1 i)).resolve_left (fun q => h99 q.1)).1
      have h16 : 2 ^ pn S.1 ≤ 2 ^ 4 := Nat.pow_le_pow_right (by decide) hn4
      have h16' : 2 ^ 4 = 16 := by decide
      have hpos : 0 ≤ sI (ls S.1 (S.2.1.2.1 i)) := by
        unfold sI
        rw [if_neg h99]
        exact nI_0le (by omega)
      refine z_iload (pc := 731) hG 0 rfl dL_law_731 ?_
      refine z_if_lt (pc := 733) (tgt := 745) hG dL_law_733 rfl (fun _ => ?_) (fun hbr => False.elim (hbr (by decide)))
      refine z_iload (pc := 745) hG 4 rfl dL_law_745 ?_
      refine z_if_ge (pc := 747) (tgt := 755) hG dL_law_747 rfl (fun _ => ?_) (fun hbr => False.elim (hbr (hpos)))
      refine z_iload (pc := 755) hG 1 rfl dL_law_755 ?_
      refine z_iconst (pc := 757) (v := (2 : Int32)) hG (by decide) dL_law_757 ?_
      refine z_icmp_ne (pc := 758) (tgt := 773) hG dL_law_758 rfl (fun _ => ?_) (fun hbr => False.elim ((nI_neq (by omega) (by decide) hw2) hbr))
      refine z_iload (pc := 773) hG 0 rfl dL_law_773 ?_
      refine z_if_ge (pc := 775) (tgt := 781) hG dL_law_775 rfl (fun hbr => False.elim ((fun h => absurd h (by decide)) hbr)) (fun _ => ?_)
      refine z_goto (pc := 778) (tgt := 833) hG dL_law_778 rfl ?_
      refine z_sub (ls' := [(11, .int (nI w)), (9, .int (nI (cnt (lsB S.1 (S.2.1.2.1 i)) (2 ^ pn S.1)))), (8, .int v8), (7, .int (sI (ls S.1 (S.2.1.2.1 i)))), (6, .int (nI (rmis (S.2.1.2.1 i) (pn S.1)))), (5, .ref (49 + c)), (4, .int (nI i)), (3, .ref 48), (2, .int (nI (pn S.1))), (1, .ref 0), (0, .ref 1041)]) [1, 2, 3, 4, 5, 6, 7, 8, 9, 10, 11] rfl ?_
      exact z_wk (by omega) (by omega) (wd_tl hl0 _ ⟨hG, rfl⟩ kk)
  · have hmo := mdd_ok (way := w) hO hB.2.2 hr hm
    obtain ⟨hf, h99, hsame⟩ := lw_mdd (way := w) hO hB.2.2 hr hm
    have hD := dga_isD hB.p0 hO (a := fun f => rv (mdd S.1 S.2.1.2.1 S.2.1.1 i w) f - 1) (fun f hf => by
      have h1 := hmo.1.2.1 f hf
      have h2 := hmo.2 f hf
      show rv (mdd S.1 S.2.1.2.1 S.2.1.1 i w) f - 1 < pq S.1 f
      omega)
    have hat := dga_at (a := fun f => rv (mdd S.1 S.2.1.2.1 S.2.1.1 i w) f - 1) (pn S.1) (fun f _ => by
      have := rv_lt8 (mdd S.1 S.2.1.2.1 S.2.1.1 i w) f
      show rv (mdd S.1 S.2.1.2.1 S.2.1.1 i w) f - 1 < 10
      omega)
    have hf0 : fs S.1 (dxt (dga (fun f => rv (mdd S.1 S.2.1.2.1 S.2.1.1 i w) f - 1) (pn S.1)) (pn S.1)) = 0 := hD.2.2.trans hf
    have hls : ls S.1 (S.2.1.2.1 i) < 2 ^ pn S.1 := ((ls_spec hO (S.2.1.2.1 i)).resolve_left (fun q => h99 q.1)).1
    have h16 : 2 ^ pn S.1 ≤ 2 ^ 4 := Nat.pow_le_pow_right (by decide) hn4
    have h16' : 2 ^ 4 = 16 := by decide
    have hpos : 0 ≤ sI (ls S.1 (S.2.1.2.1 i)) := by
      unfold sI
      rw [if_neg h99]
      exact nI_0le (by omega)
    have hd : ∀ f, f < pn S.1 → (ls S.1 (S.2.1.2.1 i)).testBit f = false → rv (S.2.1.2.1 i) f ≠ 0 ∧ dxt (dga (fun f => rv (mdd S.1 S.2.1.2.1 S.2.1.1 i w) f - 1) (pn S.1)) (pn S.1) f = rv (S.2.1.2.1 i) f - 1 := fun f hf hb => by
      have h1 := hsame f hf hb
      exact ⟨h1 ▸ hmo.2 f hf, (hat f hf).trans (congrArg (· - 1) h1)⟩
    rw [show wdA S i w = nI (dga (fun f => rv (mdd S.1 S.2.1.2.1 S.2.1.1 i w) f - 1) (pn S.1)) from (if_neg hm).trans (congrArg nI (dgt_dga _ _))]
    have kD := wd_tl hl0 (S := S) (σ := σ') (c := c) (i := i) (v7 := sI (ls S.1 (S.2.1.2.1 i))) (v8 := v8) (w := w) _ ⟨hG, rfl⟩ kk
    have hse : sI (ls S.1 (S.2.1.2.1 i)) = nI (ls S.1 (S.2.1.2.1 i)) := if_neg h99
    rw [hse] at kD hpos ⊢
    have kD := dq_all hl0 hB hW' hD.2.1 (show ls S.1 (S.2.1.2.1 i) < 16 by omega) hd (pn S.1) (dga (fun f => rv (mdd S.1 S.2.1.2.1 S.2.1.1 i w) f - 1) (pn S.1)) (Nat.le_refl _) ((congrArg (fun k => (dga (fun f => rv (mdd S.1 S.2.1.2.1 S.2.1.1 i w) f - 1) (pn S.1)) / 10 ^ k) (Nat.sub_self _)).trans (Nat.div_one _)).symm _ ⟨hG, rfl⟩ kD
    refine z_iload (pc := 731) hG 0 rfl dL_law_731 ?_
    refine z_if_lt (pc := 733) (tgt := 745) hG dL_law_733 rfl (fun hbr => False.elim ((fun h => nI_nn (by omega) h) hbr)) (fun _ => ?_)
    refine z_aload_n (pc := 736) hG 10 rfl rfl dL_law_736 ?_
    refine z_iload (pc := 737) hG 0 rfl dL_law_737 ?_
    refine z_virtS (pc := 739) (A' := A) (B' := B) (st2 := [.int ((nI (fs S.1 (dxt (dga (fun f => rv (mdd S.1 S.2.1.2.1 S.2.1.1 i w) f - 1) (pn S.1)) (pn S.1)))))]) (v := some (.int ((nI (fs S.1 (dxt (dga (fun f => rv (mdd S.1 S.2.1.2.1 S.2.1.1 i w) f - 1) (pn S.1)) (pn S.1))))))) hG [.int ((nI (dga (fun f => rv (mdd S.1 S.2.1.2.1 S.2.1.1 i w) f - 1) (pn S.1))))] [] zc_X10 (zEo_0 _) (q_tried hl0 (zEg_f _ _) hW'.1 hD.2.1 hD.1) zy_X10_tried ⟨w214, w215⟩ w213 dL_law_739 rfl (Nat.le_of_ble_eq_true rfl) (Nat.le_refl _) rfl (zand rfl (zand rfl (zand rfl (zand rfl (zand rfl (zand rfl (zand (zog_N _ _) (zand rfl (zand (zog_48 _ _) (zand rfl (zand (zo_0 _) (zand (zoks_hi (by decide)) rfl)))))))))))) rfl rfl (Nat.le_of_ble_eq_true rfl) rfl rfl ?_
    rw [show (nI (fs S.1 (dxt (dga (fun f => rv (mdd S.1 S.2.1.2.1 S.2.1.1 i w) f - 1) (pn S.1)) (pn S.1)))) = (nI 0) from congrArg nI hf0]
    refine z_if_ne (pc := 742) (tgt := 771) hG dL_law_742 rfl (fun hbr => False.elim ((fun h => h rfl) hbr)) (fun _ => ?_)
    refine z_iload (pc := 745) hG 4 rfl dL_law_745 ?_
    refine z_if_ge (pc := 747) (tgt := 755) hG dL_law_747 rfl (fun _ => ?_) (fun hbr => False.elim (hbr (hpos)))
    by_cases hw2 : w = 2
    · refine z_iload (pc := 755) hG 1 rfl dL_law_755 ?_
      refine z_iconst (pc := 757) (v := (2 : Int32)) hG (by decide) dL_law_757 ?_
      refine z_icmp_ne (pc := 758) (tgt := 773) hG dL_law_758 rfl (fun hbr => False.elim ((fun h => h (congrArg nI hw2)) hbr)) (fun _ => ?_)
      refine z_iload (pc := 761) hG 4 rfl dL_law_761 ?_
      refine z_if_lt (pc := 763) (tgt := 773) hG dL_law_763 rfl (fun hbr => False.elim ((fun h => absurd h (Int32.not_lt.mpr hpos)) hbr)) (fun _ => ?_)
      refine z_iload (pc := 766) hG 0 rfl dL_law_766 ?_
      refine z_if_ge (pc := 768) (tgt := 773) hG dL_law_768 rfl (fun _ => ?_) (fun hbr => False.elim (hbr (nI_0le (by omega))))
      refine z_iload (pc := 773) hG 0 rfl dL_law_773 ?_
      refine z_if_ge (pc := 775) (tgt := 781) hG dL_law_775 rfl (fun _ => ?_) (fun hbr => False.elim (hbr (nI_0le (by omega))))
      refine z_iload (pc := 781) hG 0 rfl dL_law_781 ?_
      refine z_istore (pc := 783) (ls' := [(13, .int ((nI (dga (fun f => rv (mdd S.1 S.2.1.2.1 S.2.1.1 i w) f - 1) (pn S.1))))), (12, .int ((nI (dga (fun f => rv (mdd S.1 S.2.1.2.1 S.2.1.1 i w) f - 1) (pn S.1))))), (11, .int ((nI w))), (9, .int ((nI (cnt (lsB S.1 (S.2.1.2.1 i)) (2 ^ pn S.1))))), (8, .int v8), (7, .int ((nI (ls S.1 (S.2.1.2.1 i))))), (6, .int ((nI (rmis (S.2.1.2.1 i) (pn S.1))))), (5, .ref (49 + c)), (4, .int ((nI i))), (3, .ref 48), (2, .int ((nI (pn S.1)))), (1, .ref 0), (0, .ref 1041)]) hG [0, 1, 2, 3, 4, 5, 6, 7, 8, 9, 10, 11, 12] (by decide) rfl dL_law_783 ?_
      refine z_iload_n (pc := 785) hG 10 rfl rfl dL_law_785 ?_
      refine z_iconst (pc := 786) (v := (1 : Int32)) hG (by decide) dL_law_786 ?_
      refine z_isub (pc := 787) hG dL_law_787 ?_
      rw [show ((nI (pn S.1)) - (1 : Int32)) = (nJ (pn S.1)) from rfl]
      refine z_istore (pc := 788) (ls' := [(14, .int ((nJ (pn S.1)))), (13, .int ((nI (dga (fun f => rv (mdd S.1 S.2.1.2.1 S.2.1.1 i w) f - 1) (pn S.1))))), (12, .int ((nI (dga (fun f => rv (mdd S.1 S.2.1.2.1 S.2.1.1 i w) f - 1) (pn S.1))))), (11, .int ((nI w))), (9, .int ((nI (cnt (lsB S.1 (S.2.1.2.1 i)) (2 ^ pn S.1))))), (8, .int v8), (7, .int ((nI (ls S.1 (S.2.1.2.1 i))))), (6, .int ((nI (rmis (S.2.1.2.1 i) (pn S.1))))), (5, .ref (49 + c)), (4, .int ((nI i))), (3, .ref 48), (2, .int ((nI (pn S.1)))), (1, .ref 0), (0, .ref 1041)]) hG [0, 1, 2, 3, 4, 5, 6, 7, 8, 9, 10, 11, 12, 13] (by decide) rfl dL_law_788 ?_
      refine z_sub (ls' := [(14, .int (nJ (pn S.1))), (13, .int (nI (dga (fun f => rv (mdd S.1 S.2.1.2.1 S.2.1.1 i w) f - 1) (pn S.1)))), (12, .int (nI (dga (fun f => rv (mdd S.1 S.2.1.2.1 S.2.1.1 i w) f - 1) (pn S.1)))), (11, .int (nI w)), (9, .int (nI (cnt (lsB S.1 (S.2.1.2.1 i)) (2 ^ pn S.1)))), (8, .int v8), (7, .int (nI (ls S.1 (S.2.1.2.1 i)))), (6, .int (nI (rmis (S.2.1.2.1 i) (pn S.1)))), (5, .ref (49 + c)), (4, .int (nI i)), (3, .ref 48), (2, .int (nI (pn S.1))), (1, .ref 0), (0, .ref 1041)]) [0, 1, 2, 3, 4, 5, 6, 7, 8, 9, 10, 11, 12, 13] rfl ?_
      exact kD
    · refine z_iload (pc := 755) hG 1 rfl dL_law_755 ?_
      refine z_iconst (pc := 757) (v := (2 : Int32)) hG (by decide) dL_law_757 ?_
      refine z_icmp_ne (pc := 758) (tgt := 773) hG dL_law_758 rfl (fun _ => ?_) (fun hbr => False.elim ((nI_neq (by omega) (by decide) hw2) hbr))
      refine z_iload (pc := 773) hG 0 rfl dL_law_773 ?_
      refine z_if_ge (pc := 775) (tgt := 781) hG dL_law_775 rfl (fun _ => ?_) (fun hbr => False.elim (hbr (nI_0le (by omega))))
      refine z_iload (pc := 781) hG 0 rfl dL_law_781 ?_
      refine z_istore (pc := 783) (ls' := [(13, .int ((nI (dga (fun f => rv (mdd S.1 S.2.1.2.1 S.2.1.1 i w) f - 1) (pn S.1))))), (12, .int ((nI (dga (fun f => rv (mdd S.1 S.2.1.2.1 S.2.1.1 i w) f - 1) (pn S.1))))), (11, .int ((nI w))), (9, .int ((nI (cnt (lsB S.1 (S.2.1.2.1 i)) (2 ^ pn S.1))))), (8, .int v8), (7, .int ((nI (ls S.1 (S.2.1.2.1 i))))), (6, .int ((nI (rmis (S.2.1.2.1 i) (pn S.1))))), (5, .ref (49 + c)), (4, .int ((nI i))), (3, .ref 48), (2, .int ((nI (pn S.1)))), (1, .ref 0), (0, .ref 1041)]) hG [0, 1, 2, 3, 4, 5, 6, 7, 8, 9, 10, 11, 12] (by decide) rfl dL_law_783 ?_
      refine z_iload_n (pc := 785) hG 10 rfl rfl dL_law_785 ?_
      refine z_iconst (pc := 786) (v := (1 : Int32)) hG (by decide) dL_law_786 ?_
      refine z_isub (pc := 787) hG dL_law_787 ?_
      rw [show ((nI (pn S.1)) - (1 : Int32)) = (nJ (pn S.1)) from rfl]
      refine z_istore (pc := 788) (ls' := [(14, .int ((nJ (pn S.1)))), (13, .int ((nI (dga (fun f => rv (mdd S.1 S.2.1.2.1 S.2.1.1 i w) f - 1) (pn S.1))))), (12, .int ((nI (dga (fun f => rv (mdd S.1 S.2.1.2.1 S.2.1.1 i w) f - 1) (pn S.1))))), (11, .int ((nI w))), (9, .int ((nI (cnt (lsB S.1 (S.2.1.2.1 i)) (2 ^ pn S.1))))), (8, .int v8), (7, .int ((nI (ls S.1 (S.2.1.2.1 i))))), (6, .int ((nI (rmis (S.2.1.2.1 i) (pn S.1))))), (5, .ref (49 + c)), (4, .int ((nI i))), (3, .ref 48), (2, .int ((nI (pn S.1)))), (1, .ref 0), (0, .ref 1041)]) hG [0, 1, 2, 3, 4, 5, 6, 7, 8, 9, 10, 11, 12, 13] (by decide) rfl dL_law_788 ?_
      refine z_sub (ls' := [(14, .int (nJ (pn S.1))), (13, .int (nI (dga (fun f => rv (mdd S.1 S.2.1.2.1 S.2.1.1 i w) f - 1) (pn S.1)))), (12, .int (nI (dga (fun f => rv (mdd S.1 S.2.1.2.1 S.2.1.1 i w) f - 1) (pn S.1)))), (11, .int (nI w)), (9, .int (nI (cnt (lsB S.1 (S.2.1.2.1 i)) (2 ^ pn S.1)))), (8, .int v8), (7, .int (nI (ls S.1 (S.2.1.2.1 i)))), (6, .int (nI (rmis (S.2.1.2.1 i) (pn S.1)))), (5, .ref (49 + c)), (4, .int (nI i)), (3, .ref 48), (2, .int (nI (pn S.1))), (1, .ref 0), (0, .ref 1041)]) [0, 1, 2, 3, 4, 5, 6, 7, 8, 9, 10, 11, 12, 13] rfl ?_
      exact kD
theorem wd_run {l : Launch} (hl0 : l.flags = flags0) {S : zSt} {σ : zS} {c i : Nat} (hB : lwB S c i) (hW : lwW S c i σ) {v8 : Int32} : ∃ σ', lwW S c i σ' ∧ hiE σ σ' ∧ σ.2.2.2 ≤ σ'.2.2.2 ∧ ∀ (A B : Nat) x, zG x cL_law 18 RL ret ∧ zl0 x = l → zK x 70 839 [(5, .ref (49 + c)), (4, .int (nI i)), (3, .ref 48), (2, .int (nI (pn S.1))), (1, .ref 0), (0, .ref 1041)] [] (zD ++ zEg c (pn S.1)) σ' A B → zK x 70 712 [(9, .int (nI (cnt (lsB S.1 (S.2.1.2.1 i)) (2 ^ pn S.1)))), (8, .int v8), (7, .int (sI (ls S.1 (S.2.1.2.1 i)))), (6, .int (nI (rmis (S.2.1.2.1 i) (pn S.1)))), (5, .ref (49 + c)), (4, .int (nI i)), (3, .ref 48), (2, .int (nI (pn S.1))), (1, .ref 0), (0, .ref 1041)] [] (zD ++ zEg c (pn S.1)) σ (A + 9) (B + 54) := by
  obtain ⟨s1, hW1, hh1, hcap1, k1⟩ := wd_one hl0 hB hW (v8 := v8) (show 0 < 3 by decide)
  obtain ⟨s2, hW2, hh2, hcap2, k2⟩ := wd_one hl0 hB hW1 (v8 := v8) (show 1 < 3 by decide)
  obtain ⟨s3, hW3, hh3, hcap3, k3⟩ := wd_one hl0 hB hW2 (v8 := v8) (show 2 < 3 by decide)
  refine ⟨s3, hW3, (hh1.tr hh2).tr hh3, by omega, ?_⟩
  rintro A B x ⟨hG, hxl⟩ kk
  subst hxl
  refine z_iconst (pc := 712) (v := (0 : Int32)) hG (by decide) dL_law_712 ?_
  refine z_istore (pc := 713) (ls' := [(11, .int ((0 : Int32))), (9, .int ((nI (cnt (lsB S.1 (S.2.1.2.1 i)) (2 ^ pn S.1))))), (8, .int v8), (7, .int ((sI (ls S.1 (S.2.1.2.1 i))))), (6, .int ((nI (rmis (S.2.1.2.1 i) (pn S.1))))), (5, .ref (49 + c)), (4, .int ((nI i))), (3, .ref 48), (2, .int ((nI (pn S.1)))), (1, .ref 0), (0, .ref 1041)]) hG [0, 1, 2, 3, 4, 5, 6, 7, 8, 9, 10] (by decide) rfl dL_law_713 ?_
  refine z_sub (ls' := [(11, .int (nI 0)), (9, .int (nI (cnt (lsB S.1 (S.2.1.2.1 i)) (2 ^ pn S.1)))), (8, .int v8), (7, .int (sI (ls S.1 (S.2.1.2.1 i)))), (6, .int (nI (rmis (S.2.1.2.1 i) (pn S.1)))), (5, .ref (49 + c)), (4, .int (nI i)), (3, .ref 48), (2, .int (nI (pn S.1))), (1, .ref 0), (0, .ref 1041)]) [0, 1, 2, 3, 4, 5, 6, 7, 8, 9, 10] rfl ?_
  refine z_wk (A' := A + 3 + 3 + 3) (B' := B + 18 + 18 + 18) (by omega) (by omega) (k1 _ _ _ ⟨hG, rfl⟩ (k2 _ _ _ ⟨hG, rfl⟩ (k3 _ _ _ ⟨hG, rfl⟩ ?_)))
  refine z_iload (pc := 715) hG 0 rfl dL_law_715 ?_
  refine z_iconst (pc := 717) (v := (3 : Int32)) hG (by decide) dL_law_717 ?_
  refine z_icmp_ge (pc := 718) (tgt := 839) hG dL_law_718 rfl (fun _ => ?_) (fun hbr => False.elim (hbr (Int32.le_refl _)))
  refine z_sub (ls' := [(5, .ref (49 + c)), (4, .int (nI i)), (3, .ref 48), (2, .int (nI (pn S.1))), (1, .ref 0), (0, .ref 1041)]) [5, 6, 7, 8, 9, 10] rfl ?_
  exact kk
