
/-! ===== small facts for the walks ===== -/
theorem kl_0 : Int64.ofNat ((0 : Fin 2) : Nat) = (0 : Int64) := by decide
theorem kl_1 : Int64.ofNat ((1 : Fin 2) : Nat) = (1 : Int64) := by decide
def ztI (r : Int32 ⊕ String) : Option Value ⊕ String := match r with | .inl v => .inl (some (.int v)) | .inr e => .inr e
def ztJ (r : Int64 ⊕ String) : Option Value ⊕ String := match r with | .inl v => .inl (some (.long v)) | .inr e => .inr e
def ztV (r : Unit ⊕ String) : Option Value ⊕ String := match r with | .inl _ => .inl none | .inr e => .inr e
def zel2 {V S R : Type} (p : (V ⊕ String) × S) (f : V → S → Option R) (g : String → S → Option R) : Option R := match p with | (.inl v, s) => f v s | (.inr e, s) => g e s
theorem zel_l {V R : Type} {v : V} {f : V → Option R} {g : String → Option R} {o : Option R} (h : zel (.inl v) f g = o) : f v = o := h
theorem zel_r {V R : Type} {e : String} {f : V → Option R} {g : String → Option R} {o : Option R} (h : zel (.inr e) f g = o) : g e = o := h
theorem zel2_l {V S R : Type} {v : V} {s : S} {f : V → S → Option R} {g : String → S → Option R} {o : Option R} (h : zel2 (.inl v, s) f g = o) : f v s = o := h
theorem zel2_r {V S R : Type} {e : String} {s : S} {f : V → S → Option R} {g : String → S → Option R} {o : Option R} (h : zel2 (.inr e, s) f g = o) : g e s = o := h
theorem zsp_dl (σ : zS) (c : Nat) : zD[zsp σ c]? = some (.inr (0, 64)) := by
  unfold zsp
  split
  · rfl
  · rfl
theorem zsp_dl0 (σ : zS) : zD[zsp σ 0]? = some (.inr (0, 64)) := zsp_dl σ 0
theorem zsp_dl1 (σ : zS) : zD[zsp σ 1]? = some (.inr (0, 64)) := zsp_dl σ 1
theorem kb_6 : (Int8.ofInt (6)).toInt32 = (6 : Int32) := by decide
theorem kb_7 : (Int8.ofInt (7)).toInt32 = (7 : Int32) := by decide
theorem kc_0 : Int32.ofInt (0) = (0 : Int32) := by decide
theorem kc_1 : Int32.ofInt (1) = (1 : Int32) := by decide
theorem kc_3 : Int32.ofInt (3) = (3 : Int32) := by decide
theorem ki_1 (a : Int32) : a + Int32.ofInt (1) = a + (1 : Int32) := rfl
theorem dX1_answerAt_0 : decode cX1_answerAt 0 = .ok (.iload_n 0, 1) := by decide +kernel
theorem dX1_answerAt_1 : decode cX1_answerAt 1 = .ok (.iconst 3, 1) := by decide +kernel
theorem dX1_answerAt_2 : decode cX1_answerAt 2 = .ok (.iload_n 1, 1) := by decide +kernel
theorem dX1_answerAt_3 : decode cX1_answerAt 3 = .ok (.imul, 1) := by decide +kernel
theorem dX1_answerAt_4 : decode cX1_answerAt 4 = .ok (.ishr, 1) := by decide +kernel
theorem dX1_answerAt_5 : decode cX1_answerAt 5 = .ok (.bipush 7, 2) := by decide +kernel
theorem dX1_answerAt_7 : decode cX1_answerAt 7 = .ok (.iand, 1) := by decide +kernel
theorem dX1_answerAt_8 : decode cX1_answerAt 8 = .ok (.iconst 1, 1) := by decide +kernel
theorem dX1_answerAt_9 : decode cX1_answerAt 9 = .ok (.isub, 1) := by decide +kernel
theorem dX1_answerAt_10 : decode cX1_answerAt 10 = .ok (.ireturn, 1) := by decide +kernel
theorem dX6_allEdits_0 : decode cX6_allEdits 0 = .ok (.iconst 1, 1) := by decide +kernel
theorem dX6_allEdits_1 : decode cX6_allEdits 1 = .ok (.aload_n 0, 1) := by decide +kernel
theorem dX6_allEdits_2 : decode cX6_allEdits 2 = .ok (.getfield 41, 3) := by decide +kernel
theorem dX6_allEdits_5 : decode cX6_allEdits 5 = .ok (.ishl, 1) := by decide +kernel
theorem dX6_allEdits_6 : decode cX6_allEdits 6 = .ok (.iconst 1, 1) := by decide +kernel
theorem dX6_allEdits_7 : decode cX6_allEdits 7 = .ok (.isub, 1) := by decide +kernel
theorem dX6_allEdits_8 : decode cX6_allEdits 8 = .ok (.ireturn, 1) := by decide +kernel
theorem dX5_editsOfAnswer_0 : decode cX5_editsOfAnswer 0 = .ok (.aload_n 0, 1) := by decide +kernel
theorem dX5_editsOfAnswer_1 : decode cX5_editsOfAnswer 1 = .ok (.getfield 11, 3) := by decide +kernel
theorem dX5_editsOfAnswer_4 : decode cX5_editsOfAnswer 4 = .ok (.iload_n 1, 1) := by decide +kernel
theorem dX5_editsOfAnswer_5 : decode cX5_editsOfAnswer 5 = .ok (.bipush 6, 2) := by decide +kernel
theorem dX5_editsOfAnswer_7 : decode cX5_editsOfAnswer 7 = .ok (.imul, 1) := by decide +kernel
theorem dX5_editsOfAnswer_8 : decode cX5_editsOfAnswer 8 = .ok (.iconst 1, 1) := by decide +kernel
theorem dX5_editsOfAnswer_9 : decode cX5_editsOfAnswer 9 = .ok (.iadd, 1) := by decide +kernel
theorem dX5_editsOfAnswer_10 : decode cX5_editsOfAnswer 10 = .ok (.iload_n 2, 1) := by decide +kernel
theorem dX5_editsOfAnswer_11 : decode cX5_editsOfAnswer 11 = .ok (.iadd, 1) := by decide +kernel
theorem dX5_editsOfAnswer_12 : decode cX5_editsOfAnswer 12 = .ok (.iaload, 1) := by decide +kernel
theorem dX5_editsOfAnswer_13 : decode cX5_editsOfAnswer 13 = .ok (.ireturn, 1) := by decide +kernel
theorem dX5_editsLeft_0 : decode cX5_editsLeft 0 = .ok (.aload_n 0, 1) := by decide +kernel
theorem dX5_editsLeft_1 : decode cX5_editsLeft 1 = .ok (.getfield 28, 3) := by decide +kernel
theorem dX5_editsLeft_4 : decode cX5_editsLeft 4 = .ok (.invokevirtual 38, 3) := by decide +kernel
theorem dX5_editsLeft_7 : decode cX5_editsLeft 7 = .ok (.istore_n 3, 1) := by decide +kernel
theorem dX5_editsLeft_8 : decode cX5_editsLeft 8 = .ok (.iconst 0, 1) := by decide +kernel
theorem dX5_editsLeft_9 : decode cX5_editsLeft 9 = .ok (.istore 4, 2) := by decide +kernel
theorem dX5_editsLeft_11 : decode cX5_editsLeft 11 = .ok (.iload 4, 2) := by decide +kernel
theorem dX5_editsLeft_13 : decode cX5_editsLeft 13 = .ok (.aload_n 0, 1) := by decide +kernel
theorem dX5_editsLeft_14 : decode cX5_editsLeft 14 = .ok (.getfield 28, 3) := by decide +kernel
theorem dX5_editsLeft_17 : decode cX5_editsLeft 17 = .ok (.getfield 32, 3) := by decide +kernel
theorem dX5_editsLeft_20 : decode cX5_editsLeft 20 = .ok (.if_icmp .ge 33, 3) := by decide +kernel
theorem dX5_editsLeft_23 : decode cX5_editsLeft 23 = .ok (.iload_n 2, 1) := by decide +kernel
theorem dX5_editsLeft_24 : decode cX5_editsLeft 24 = .ok (.iload 4, 2) := by decide +kernel
theorem dX5_editsLeft_26 : decode cX5_editsLeft 26 = .ok (.ishr, 1) := by decide +kernel
theorem dX5_editsLeft_27 : decode cX5_editsLeft 27 = .ok (.iconst 1, 1) := by decide +kernel
theorem dX5_editsLeft_28 : decode cX5_editsLeft 28 = .ok (.iand, 1) := by decide +kernel
theorem dX5_editsLeft_29 : decode cX5_editsLeft 29 = .ok (.ifCond .ne 18, 3) := by decide +kernel
theorem dX5_editsLeft_32 : decode cX5_editsLeft 32 = .ok (.iload_n 3, 1) := by decide +kernel
theorem dX5_editsLeft_33 : decode cX5_editsLeft 33 = .ok (.aload_n 0, 1) := by decide +kernel
theorem dX5_editsLeft_34 : decode cX5_editsLeft 34 = .ok (.iload 4, 2) := by decide +kernel
theorem dX5_editsLeft_36 : decode cX5_editsLeft 36 = .ok (.iload_n 1, 1) := by decide +kernel
theorem dX5_editsLeft_37 : decode cX5_editsLeft 37 = .ok (.iload 4, 2) := by decide +kernel
theorem dX5_editsLeft_39 : decode cX5_editsLeft 39 = .ok (.invokestatic 99, 3) := by decide +kernel
theorem dX5_editsLeft_42 : decode cX5_editsLeft 42 = .ok (.invokevirtual 89, 3) := by decide +kernel
theorem dX5_editsLeft_45 : decode cX5_editsLeft 45 = .ok (.iand, 1) := by decide +kernel
theorem dX5_editsLeft_46 : decode cX5_editsLeft 46 = .ok (.istore_n 3, 1) := by decide +kernel
theorem dX5_editsLeft_47 : decode cX5_editsLeft 47 = .ok (.iinc 4 1, 3) := by decide +kernel
theorem dX5_editsLeft_50 : decode cX5_editsLeft 50 = .ok (.goto (-39), 3) := by decide +kernel
theorem dX5_editsLeft_53 : decode cX5_editsLeft 53 = .ok (.iload_n 3, 1) := by decide +kernel
theorem dX5_editsLeft_54 : decode cX5_editsLeft 54 = .ok (.ireturn, 1) := by decide +kernel
noncomputable def nX1_answerAt (a0 : Int32) (a1 : Int32) : Option Int32 :=
  some ((((a0 >>> (((3 : Int32) * a1) &&& 31)) &&& (7 : Int32)) - (1 : Int32)))
theorem tX1_answerAt {l : Launch} (hl0 : l.flags = flags0) (a0 : Int32) (a1 : Int32) (g : zS) {r : Int32} (h : nX1_answerAt a0 a1 = some r) : zC l yX1_answerAt cX1_answerAt 2 ((Option.some Jvm.ClassFile.FieldType.int)) 0 0 0 [.int a0, .int a1] zD g (.inl (some (.int r)), zD, g) := by
  refine zC_of hl0 rfl (Nat.le_of_ble_eq_true rfl) (fun x hG hxl hk _ => ?_)
  subst hxl
  show zK x 0 0 [(0, .int a0), (1, .int a1)] [] zD g 0 0
  unfold nX1_answerAt at h
  refine z_iload_n (pc := 0) hG 0 rfl rfl dX1_answerAt_0 ?_
  refine z_iconst (pc := 1) hG kc_3 dX1_answerAt_1 ?_
  refine z_iload_n (pc := 2) hG 1 rfl rfl dX1_answerAt_2 ?_
  refine z_imul (pc := 3) hG dX1_answerAt_3 ?_
  refine z_ishr (pc := 4) hG dX1_answerAt_4 ?_
  refine z_bipush (pc := 5) hG kb_7 dX1_answerAt_5 ?_
  refine z_iand (pc := 7) hG dX1_answerAt_7 ?_
  refine z_iconst (pc := 8) hG kc_1 dX1_answerAt_8 ?_
  refine z_isub (pc := 9) hG dX1_answerAt_9 ?_
  obtain rfl := Option.some.inj h
  exact z_iret (pc := 10) hG rfl rfl hk dX1_answerAt_10
noncomputable def nX6_allEdits (g : zS) : Option Int32 :=
  some ((((1 : Int32) <<< ((g.1 3 7) &&& 31)) - (1 : Int32)))
theorem tX6_allEdits {l : Launch} (hl0 : l.flags = flags0) (g : zS) {r : Int32} (h : nX6_allEdits g = some r) : zC l yX6_allEdits cX6_allEdits 1 ((Option.some Jvm.ClassFile.FieldType.int)) 0 0 0 [.ref 3] zD g (.inl (some (.int r)), zD, g) := by
  refine zC_of hl0 rfl (Nat.le_of_ble_eq_true rfl) (fun x hG hxl hk _ => ?_)
  subst hxl
  show zK x 0 0 [(0, .ref 3)] [] zD g 0 0
  unfold nX6_allEdits at h
  refine z_iconst (pc := 0) hG kc_1 dX6_allEdits_0 ?_
  refine z_aload_n (pc := 1) hG 0 rfl rfl dX6_allEdits_1 ?_
  refine z_geti (pc := 2) hG zc_X6 inX6 DL_3 7 rfl (by decide) rfl w86 dX6_allEdits_2 ?_
  refine z_ishl (pc := 5) hG dX6_allEdits_5 ?_
  refine z_iconst (pc := 6) hG kc_1 dX6_allEdits_6 ?_
  refine z_isub (pc := 7) hG dX6_allEdits_7 ?_
  obtain rfl := Option.some.inj h
  exact z_iret (pc := 8) hG rfl rfl hk dX6_allEdits_8
noncomputable def nX5_editsOfAnswer (a1 : Int32) (a2 : Int32) (g : zS) : Option Int32 :=
  zchk (zin (((a1 * (6 : Int32)) + (1 : Int32)) + a2) 30) (some ((g.1 21 (((a1 * (6 : Int32)) + (1 : Int32)) + a2).toNatClampNeg)))
theorem tX5_editsOfAnswer {l : Launch} (hl0 : l.flags = flags0) (a1 : Int32) (a2 : Int32) (g : zS) {r : Int32} (h : nX5_editsOfAnswer a1 a2 g = some r) : zC l yX5_editsOfAnswer cX5_editsOfAnswer 3 ((Option.some Jvm.ClassFile.FieldType.int)) 0 0 0 [.ref 20, .int a1, .int a2] zD g (.inl (some (.int r)), zD, g) := by
  refine zC_of hl0 rfl (Nat.le_of_ble_eq_true rfl) (fun x hG hxl hk _ => ?_)
  subst hxl
  show zK x 0 0 [(0, .ref 20), (1, .int a1), (2, .int a2)] [] zD g 0 0
  unfold nX5_editsOfAnswer at h
  refine z_aload_n (pc := 0) hG 0 rfl rfl dX5_editsOfAnswer_0 ?_
  refine z_getr (pc := 1) hG zc_X5 inX5 DL_20 1 rfl (by decide) rfl w151 dX5_editsOfAnswer_1 ?_
  refine z_iload_n (pc := 4) hG 1 rfl rfl dX5_editsOfAnswer_4 ?_
  refine z_bipush (pc := 5) hG kb_6 dX5_editsOfAnswer_5 ?_
  refine z_imul (pc := 7) hG dX5_editsOfAnswer_7 ?_
  refine z_iconst (pc := 8) hG kc_1 dX5_editsOfAnswer_8 ?_
  refine z_iadd (pc := 9) hG dX5_editsOfAnswer_9 ?_
  refine z_iload_n (pc := 10) hG 2 rfl rfl dX5_editsOfAnswer_10 ?_
  refine z_iadd (pc := 11) hG dX5_editsOfAnswer_11 ?_
  obtain ⟨hc, h⟩ := zchk_some h
  refine z_iald (pc := 12) hG DL_21 (zin_in hc) dX5_editsOfAnswer_12 ?_
  obtain rfl := Option.some.inj h
  exact z_iret (pc := 13) hG rfl rfl hk dX5_editsOfAnswer_13
noncomputable def wX5_editsLeft_11 (a1 : Int32) (a2 : Int32) (g : zS) (s : (Int32 × Int32)) : Option ((Int32 × Int32) ⊕ Int32) :=
  if (g.1 3 0) ≤ s.2 then (zex (some (s.1))) else (if ((a2 >>> (s.2 &&& 31)) &&& (1 : Int32)) = 0 then ((nX1_answerAt a1 s.2).bind fun v2 => (nX5_editsOfAnswer s.2 v2 g).bind fun v3 => some (.inl ((s.1 &&& v3), (s.2 + (1 : Int32))))) else (some (.inl (s.1, (s.2 + (1 : Int32))))))
noncomputable def nX5_editsLeft (a1 : Int32) (a2 : Int32) (g : zS) : Option Int32 :=
  (nX6_allEdits g).bind fun v1 => wh (wX5_editsLeft_11 a1 a2 g) (v1, (0 : Int32))
def qX5_editsLeft_11 (x : zXx) (a1 : Int32) (a2 : Int32) (g : zS) (o : (Int32 × Int32) ⊕ Int32) : Prop := match o with
  | .inl s => zK x 1 11 [(0, .ref 20), (1, .int a1), (2, .int a2), (3, .int s.1), (4, .int s.2)] [] zD g 0 0
  | .inr r => ztg x = (.inl (some (.int r)), zD, g)
theorem kwX5_editsLeft_11 {x : zXx} (hG : zG x cX5_editsLeft 5 RX5 ((Option.some Jvm.ClassFile.FieldType.int))) (hl0 : (zl0 x).flags = flags0) (a1 : Int32) (a2 : Int32) (g : zS) {o : Int32} (hk : ztg x = (.inl (some (.int o)), zD, g)) : ∀ s : (Int32 × Int32), wh (wX5_editsLeft_11 a1 a2 g) s = some o → zK x 1 11 [(0, .ref 20), (1, .int a1), (2, .int a2), (3, .int s.1), (4, .int s.2)] [] zD g 0 0 := by
  refine wh_ind (fun s : (Int32 × Int32) => zK x 1 11 [(0, .ref 20), (1, .int a1), (2, .int a2), (3, .int s.1), (4, .int s.2)] [] zD g 0 0) (fun s o h hk2 => ?_)
  replace hk : qX5_editsLeft_11 x a1 a2 g o := by
    cases o with
    | inl s => exact hk2
    | inr r => subst hk2; exact hk
  clear hk2
  unfold wX5_editsLeft_11 at h
  refine z_iload (pc := 11) hG 4 rfl dX5_editsLeft_11 ?_
  refine z_aload_n (pc := 13) hG 0 rfl rfl dX5_editsLeft_13 ?_
  refine z_getr (pc := 14) hG zc_X5 inX5 DL_20 0 rfl (by decide) rfl w150 dX5_editsLeft_14 ?_
  refine z_geti (pc := 17) hG zc_X6 inX6 DL_3 0 rfl (by decide) rfl w59 dX5_editsLeft_17 ?_
  refine z_icmp_ge (pc := 20) (tgt := 53) hG dX5_editsLeft_20 rfl (fun hc => ?_) (fun hc => ?_)
  · replace h := zif_t hc h
    replace h := zex_some h
    obtain ⟨o, h, rfl⟩ := h
    refine z_iload_n (pc := 53) hG 3 rfl rfl dX5_editsLeft_53 ?_
    obtain rfl := Option.some.inj h
    exact z_iret (pc := 54) hG rfl rfl hk dX5_editsLeft_54
  · replace h := zif_f hc h
    refine z_iload_n (pc := 23) hG 2 rfl rfl dX5_editsLeft_23 ?_
    refine z_iload (pc := 24) hG 4 rfl dX5_editsLeft_24 ?_
    refine z_ishr (pc := 26) hG dX5_editsLeft_26 ?_
    refine z_iconst (pc := 27) hG kc_1 dX5_editsLeft_27 ?_
    refine z_iand (pc := 28) hG dX5_editsLeft_28 ?_
    refine z_if_ne (pc := 29) (tgt := 47) hG dX5_editsLeft_29 rfl (fun hc => ?_) (fun hc => ?_)
    · replace h := zif_f hc h
      refine z_iinc (pc := 47) hG 4 rfl [0, 1, 2, 3, 4] (ki_1 _) (by decide) rfl dX5_editsLeft_47 ?_
      refine z_goto (pc := 50) (tgt := 11) hG dX5_editsLeft_50 rfl ?_
      obtain rfl := Option.some.inj h
      refine z_sub [1, 2, 3, 4, 0] rfl ?_
      exact hk
    · replace h := zif_t hc h
      refine z_iload_n (pc := 32) hG 3 rfl rfl dX5_editsLeft_32 ?_
      refine z_aload_n (pc := 33) hG 0 rfl rfl dX5_editsLeft_33 ?_
      refine z_iload (pc := 34) hG 4 rfl dX5_editsLeft_34 ?_
      refine z_iload_n (pc := 36) hG 1 rfl rfl dX5_editsLeft_36 ?_
      refine z_iload (pc := 37) hG 4 rfl dX5_editsLeft_37 ?_
      obtain ⟨v2, hv2, h⟩ := zbind h
      refine z_csI (pc := 39) (A' := 0) (B' := 0) hG [.int a1, .int s.2] [.int s.2, .ref 20, .int s.1] (tX1_answerAt hl0 a1 s.2 g hv2) zy_X1_answerAt w435 w445 dX5_editsLeft_39 rfl (Nat.le_of_ble_eq_true rfl) rfl rfl rfl (Nat.le_of_ble_eq_true rfl) rfl ?_
      obtain ⟨v3, hv3, h⟩ := zbind h
      refine z_cvI (pc := 42) (A' := 0) (B' := 0) hG [.int s.2, .int v2] [.int s.1] zc_X5 DL_20 (tX5_editsOfAnswer hl0 s.2 v2 g hv3) zy_X5_editsOfAnswer ⟨w357, w358⟩ w374 dX5_editsLeft_42 rfl (Nat.le_of_ble_eq_true rfl) rfl rfl rfl (Nat.le_of_ble_eq_true rfl) rfl ?_
      refine z_iand (pc := 45) hG dX5_editsLeft_45 ?_
      refine z_istore_n (pc := 46) hG [0, 1, 2, 3, 4] rfl (by decide) rfl dX5_editsLeft_46 ?_
      refine z_iinc (pc := 47) hG 4 rfl [0, 1, 2, 3, 4] (ki_1 _) (by decide) rfl dX5_editsLeft_47 ?_
      refine z_goto (pc := 50) (tgt := 11) hG dX5_editsLeft_50 rfl ?_
      obtain rfl := Option.some.inj h
      refine z_sub [2, 3, 4, 1, 0] rfl ?_
      exact hk
theorem tX5_editsLeft {l : Launch} (hl0 : l.flags = flags0) (a1 : Int32) (a2 : Int32) (g : zS) {r : Int32} (h : nX5_editsLeft a1 a2 g = some r) : zC l yX5_editsLeft cX5_editsLeft 5 ((Option.some Jvm.ClassFile.FieldType.int)) 1 0 0 [.ref 20, .int a1, .int a2] zD g (.inl (some (.int r)), zD, g) := by
  refine zC_of hl0 rfl (Nat.le_of_ble_eq_true rfl) (fun x hG hxl hk _ => ?_)
  subst hxl
  show zK x 1 0 [(0, .ref 20), (1, .int a1), (2, .int a2)] [] zD g 0 0
  unfold nX5_editsLeft at h
  refine z_aload_n (pc := 0) hG 0 rfl rfl dX5_editsLeft_0 ?_
  refine z_getr (pc := 1) hG zc_X5 inX5 DL_20 0 rfl (by decide) rfl w150 dX5_editsLeft_1 ?_
  obtain ⟨v1, hv1, h⟩ := zbind h
  refine z_cvI (pc := 4) (A' := 0) (B' := 0) hG [] [] zc_X6 DL_3 (tX6_allEdits hl0  g hv1) zy_X6_allEdits ⟨w442, w443⟩ w441 dX5_editsLeft_4 rfl (Nat.le_of_ble_eq_true rfl) rfl rfl rfl (Nat.le_of_ble_eq_true rfl) rfl ?_
  refine z_istore_n (pc := 7) hG [0, 1, 2, 3] rfl (by decide) rfl dX5_editsLeft_7 ?_
  refine z_iconst (pc := 8) hG kc_0 dX5_editsLeft_8 ?_
  refine z_istore (pc := 9) hG [0, 1, 2, 3, 4] (by decide) rfl dX5_editsLeft_9 ?_
  refine z_sub [2, 3, 4, 1, 0] rfl ?_
  exact kwX5_editsLeft_11 hG hl0 a1 a2 g hk _ h
