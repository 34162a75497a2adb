/-! ===== the script; draw; letters of made strings ===== -/
abbrev zadx (x : zXx) : Nat → Nat := x.2.2.2.2.2.2.2.2.2.2.2.2.2.1
def zscr (ad : Nat → Nat) (N : Nat) (scr : Nat → Int32) : Prop := ad 1042 = N ∧ N ≤ 260 ∧ ∀ j, j < N → nI (ad (1100 + j)) = scr j
theorem zscr.ad {ad ad' : Nat → Nat} {N : Nat} {scr : Nat → Int32} (h : zscr ad N scr) (hq : ∀ i, 900 ≤ i → ad' i = ad i) : zscr ad' N scr := ⟨(hq _ (by decide)).trans h.1, h.2.1, fun j hj => by rw [hq _ (by omega)]; exact h.2.2 j hj⟩
section ZScr
variable {x : zXx} {cc bytes : ByteArray} {nL maxL : Nat} {own : String} {ret ret' : Option FieldType} {F fr pc : Nat} {ls : List (Nat × Value)} {st rest st2 : List Value} {dl dl' : List zDs} {σ σ' : zS} {A B A' B' nc ns n index N : Nat} {y : MethodName} {v : Option Value} {scr : Nat → Int32}
theorem z_sld {w : Int32} (hG : zG x cc nL own ret) (hs : zscr (zadx x) N scr) (hin : vp_in w N) (hd : decode cc pc = .ok (.iaload, 1))
    (kk : zK x F (pc + 1) ls (.int (scr w.toNatClampNeg) :: st) dl σ A B) : zK x F pc ls (.int w :: .ref 1041 :: st) dl σ A B := by
  obtain ⟨p, l, e, R, s, m, args, below, meth, c, D, ca, b0, ad0, n0, tg⟩ := x
  obtain ⟨hx, hb, hml, hown, hts, hret, hlk, htab, hKs, hOs, hfl⟩ := hG
  intro ad H locs la cells slots h1 h2 h3 h4 h5 h6 h7 h8 h9 h10
  have hs' : zscr ad N scr := hs.ad h1.hi
  have hlt : w.toNatClampNeg < N := Nat.not_le.mp fun q => hin (Or.inr q)
  exact va_ti hx hb (hOs.1.2.2.2.ad h1.hi).2.2.2.2.2.2.2.2 h5 (by rw [hs'.1]; exact hin) (v := .int (scr w.toNatClampNeg)) (congrArg Value.int (hs'.2.2 _ hlt)) hd (kk ad H locs la cells slots h1 h2 h3 h4 h5 h6 h7 h8 h9 h10)
theorem z_scl (hG : zG x cc nL own ret) (hs : zscr (zadx x) N scr) (hd : decode cc pc = .ok (.arraylength, 1))
    (kk : zK x F (pc + 1) ls (.int (nI N) :: st) dl σ A B) : zK x F pc ls (.ref 1041 :: st) dl σ A B := by
  obtain ⟨p, l, e, R, s, m, args, below, meth, c, D, ca, b0, ad0, n0, tg⟩ := x
  obtain ⟨hx, hb, hml, hown, hts, hret, hlk, htab, hKs, hOs, hfl⟩ := hG
  intro ad H locs la cells slots h1 h2 h3 h4 h5 h6 h7 h8 h9 h10
  have hs' : zscr ad N scr := hs.ad h1.hi
  exact va_tlen hx hb (hOs.1.2.2.2.ad h1.hi).2.2.2.2.2.2.2.2 h5 (v := nI N) (by rw [hs'.1]; rfl) hd (kk ad H locs la cells slots h1 h2 h3 h4 h5 h6 h7 h8 h9 h10)
/-- a contract of a method that reads the script -/
def zCh (l : Launch) (N : Nat) (scr : Nat → Int32) (y : MethodName) (cc : ByteArray) (maxL : Nat) (ret : Option FieldType) (fr nc ns : Nat) (av : List Value) (dl : List zDs) (σ : zS) (tg : zO3) : Prop :=
  ∀ (D : va_G) (ca : Nat → ClassId) (b0 : Nat → Prop) (ad : Nat → Nat), ¬ ca 99 = ca 98 → zscr ad N scr → vx_Met l y (.code y cc maxL ret :: zT) (zrm fr nc ns) (va_Pc (av.map (zr ad)) (fun U => (zWD D ca b0 ad dl σ U ∧ zRs ad U) ∧ zPx U)) (zQc D ca b0 ad dl.length tg) (zXc D ca b0 ad dl.length tg) nc ns (zA b0)
theorem zCh_of {l : Launch} (hl : l.flags = flags0) {cc : ByteArray} {av : List Value} {tg : zO3} (hy : plainName y.cls = true) (hn : (lg_sl av).length ≤ maxL)
    (body : ∀ x : zXx, zG x cc maxL y.cls ret → zl0 x = l → ztg x = tg → ¬ zca x 99 = zca x 98 → x.2.2.2.2.2.2.2.2.2.2.2.2.2.2.1 = dl.length → zscr (zadx x) N scr → zPx x.2.2.2.2.1 → zK x fr 0 (lv_args 0 av) [] dl σ nc ns) : zCh l N scr y cc maxL ret fr nc ns av dl σ tg := by
  intro D ca b0 ad hns hsc
  refine vx_ofW (cc := cc) (maxL := maxL) (ret := ret) hy rfl ?_
  intro p e s m args below meth c s₁ B hml htab hv
  obtain ⟨rfl, ⟨⟨hP, hK, hD, hO⟩, hR⟩, hPx⟩ := hv
  have hts := atoms_spec (ws := .code y cc maxL ret :: zT) B.pre
  have hown : s.vm.findClass y.cls = some m.cls := findClass_of_methodNamed B.named
  have hk := body (p, l, e, (headSpec (.code y cc maxL ret :: zT) (zrm fr nc ns)).room, s, m, (av.map (zr ad)).toArray, below, meth, c, D, ca, b0, ad, dl.length, tg) ⟨B.exec, B.bytes, hml, hown, fun w h => hts w (List.mem_cons_of_mem _ h), B.returns, B.notSynchronized, htab, hK, ⟨hO, hR⟩, hl⟩ rfl rfl hns rfl hsc hPx
  have hle := lv_entry (av.map (zr ad)) (n := maxL) (by rw [zr_len]; exact hn)
  rw [lg_entry_eq]
  generalize (lg_sl (av.map (zr ad)) ++ List.replicate (maxL - (lg_sl (av.map (zr ad))).length) Slot.unset).toArray = la at hle ⊢
  rw [zrl_args] at hle
  exact hk ad s.heap [] la 0 0 zad.rf (Nat.le_refl _) hP hD va_S.rf (by rw [hml]; exact hle) (by rw [Nat.zero_add]; exact Nat.le_refl _) (by rw [Nat.zero_add]; exact Nat.le_refl _) (Nat.le_refl _) (Nat.le_refl _)
theorem z_statH (hG : zG x cc nL own ret) (hns : ¬ zca x 99 = zca x 98) (hsc : zscr (zadx x) N scr) (hPx : zPx x.2.2.2.2.1) (As rest : List Value) (hC : zCh (zl0 x) N scr y bytes maxL ret' fr nc ns As dl σ (.inl v, dl', σ')) (hy : zY y bytes maxL ret' n) (hs : Cond.static y ∈ zT) (hl : Cond.methodLink own index y ∈ zT) (hd : decode cc pc = .ok (.invokestatic index, 3)) (hn : As.length = n) (hF : fr + 1 ≤ F)
    (hle : dl.length ≤ dl'.length) (hst : rest.all (zok dl.length) = true) (hls : ls.all (fun q => zok dl.length q.2) = true) (hA : A = A' + nc) (hB : B = B' + ns) (hW : (rest.map fun v => v.category).sum ≤ 8) (hstk : st = As.reverse ++ rest) (h2 : v.toList ++ rest = st2)
    (kk : zK x F (pc + 3) ls st2 dl' σ' A' B') : zK x F pc ls st dl σ A B := by
  subst hstk
  subst h2
  refine z_after hG (Nat.le_refl _) hle hst hls hA hB kk ?_
  obtain ⟨p, l, e, R, s, m, args, below, meth, c, D, ca, b0, ad0, n0, tg⟩ := x
  obtain ⟨hx, hb, hml, hown, hts, hret, hlk, htab, hKs, hOs, hfl⟩ := hG
  intro ad H locs la cells slots h1 h3 h4 h5 h7 h8 h6 h9 h10
  exact ⟨_, vx_runS ⟨hx, hb, rfl, hown, hts⟩ (hC D ca b0 ad hns (hsc.ad h1.hi)) ⟨zC_callB hts hy hl hF h9 h10, hts _ hs⟩ ⟨zCx_blind, fun U hU hW => ⟨rfl, ⟨⟨by rw [hU]; exact h3, va_K.moved hW.alike hKs, h4, by rw [hU]; exact ((hOs.1.kept h5.1 h5.2.1).moved hW.alike).ad h1.hi⟩, (hOs.2.warm hW).ad h1.hi⟩, zPx.warm hW hPx⟩⟩ rfl (by rw [List.length_map]; exact hn) h6 (by rw [List.map_append, List.map_reverse]) (lv_room (by rw [List.map_map]; exact Nat.le_trans (Nat.le_of_eq (congrArg List.sum (List.map_congr_left fun v _ => zr_cat ad v))) hW)) hd ⟨h7, h8⟩⟩
end ZScr
/-- what draw answers -/
def drw (N : Nat) (scr : Nat → Int32) (k : Nat) : Int32 := if k < N then scr k &&& (2147483647 : Int32) else 0
theorem dL_draw_0 : decode cL_draw 0 = .ok (.iload_n 1, 1) := by decide +kernel
theorem dL_draw_1 : decode cL_draw 1 = .ok (.aload_n 0, 1) := by decide +kernel
theorem dL_draw_2 : decode cL_draw 2 = .ok (.arraylength, 1) := by decide +kernel
theorem dL_draw_3 : decode cL_draw 3 = .ok (.if_icmp .ge 12, 3) := by decide +kernel
theorem dL_draw_6 : decode cL_draw 6 = .ok (.aload_n 0, 1) := by decide +kernel
theorem dL_draw_7 : decode cL_draw 7 = .ok (.iload_n 1, 1) := by decide +kernel
theorem dL_draw_8 : decode cL_draw 8 = .ok (.iaload, 1) := by decide +kernel
theorem dL_draw_9 : decode cL_draw 9 = .ok (.ldc 7, 2) := by decide +kernel
theorem dL_draw_11 : decode cL_draw 11 = .ok (.iand, 1) := by decide +kernel
theorem dL_draw_12 : decode cL_draw 12 = .ok (.goto 4, 3) := by decide +kernel
theorem dL_draw_15 : decode cL_draw 15 = .ok (.iconst 0, 1) := by decide +kernel
theorem dL_draw_16 : decode cL_draw 16 = .ok (.ireturn, 1) := by decide +kernel
theorem c_draw {l : Launch} (hl0 : l.flags = flags0) {dl : List zDs} {σ : zS} {N k : Nat} {scr : Nat → Int32} (hk9 : k < 9) : zCh l N scr yL_draw cL_draw 2 (Option.some Jvm.ClassFile.FieldType.int) 0 0 0 [.ref 1041, .int (nI k)] dl σ (.inl (some (.int (drw N scr k))), dl, σ) := by
  refine zCh_of hl0 rfl (Nat.le_of_ble_eq_true rfl) (fun x hG hxl hk hns hn0 hsc hPx => ?_)
  subst hxl
  have hN := hsc.2.1
  show zK x 0 0 [(0, .ref 1041), (1, .int ((nI k)))] [] dl σ 0 0
  refine z_iload_n (pc := 0) hG 1 rfl rfl dL_draw_0 ?_
  refine z_aload_n (pc := 1) hG 0 rfl rfl dL_draw_1 ?_
  refine z_scl (pc := 2) hG hsc dL_draw_2 ?_
  by_cases hkN : k < N
  · refine z_icmp_ge (pc := 3) (tgt := 15) hG dL_draw_3 rfl (fun hbr => False.elim ((fun h => nI_nle2 hkN (by omega) h) hbr)) (fun _ => ?_)
    refine z_aload_n (pc := 6) hG 0 rfl rfl dL_draw_6 ?_
    refine z_iload_n (pc := 7) hG 1 rfl rfl dL_draw_7 ?_
    refine z_sld (pc := 8) hG hsc (vp_in_nI hkN (by omega)) dL_draw_8 ?_
    rw [nI_clamp (show k < 2 ^ 31 by omega)]
    rw [drw, if_pos hkN] at hk
    refine z_ldc (pc := 9) hG w789 dL_draw_9 ?_
    refine z_iand (pc := 11) hG dL_draw_11 ?_
    refine z_goto (pc := 12) (tgt := 16) hG dL_draw_12 rfl ?_
    exact z_iret (pc := 16) hG rfl rfl hk dL_draw_16
  · rw [drw, if_neg hkN] at hk
    refine z_icmp_ge (pc := 3) (tgt := 15) hG dL_draw_3 rfl (fun _ => ?_) (fun hbr => False.elim (hbr (nI_le (by omega) (by omega))))
    refine z_iconst (pc := 15) (v := (0 : Int32)) hG (by decide) dL_draw_15 ?_
    exact z_iret (pc := 16) hG rfl rfl hk dL_draw_16
theorem dX11_init_0 : decode cX11_init 0 = .ok (.aload_n 0, 1) := by decide +kernel
theorem dX11_init_1 : decode cX11_init 1 = .ok (.invokespecial 1, 3) := by decide +kernel
theorem dX11_init_4 : decode cX11_init 4 = .ok (.aload_n 0, 1) := by decide +kernel
theorem dX11_init_5 : decode cX11_init 5 = .ok (.iload_n 1, 1) := by decide +kernel
theorem dX11_init_6 : decode cX11_init 6 = .ok (.putfield 7, 3) := by decide +kernel
theorem dX11_init_9 : decode cX11_init 9 = .ok (.return_, 1) := by decide +kernel
theorem c_dice {l : Launch} (hl0 : l.flags = flags0) {dl : List zDs} {σ : zS} {d : Nat} {v : Int32} (hd : dl[d]? = some zDi) : zC l yX11_init cX11_init 2 (Option.none : Option Jvm.ClassFile.FieldType) 0 0 0 [.ref d, .int v] dl σ (.inl none, dl, zi σ d 0 (v)) := by
  refine zC_of hl0 rfl (Nat.le_of_ble_eq_true rfl) (fun x hG hxl hk _ => ?_)
  subst hxl
  show zK x 0 0 [(0, .ref d), (1, .int v)] [] dl σ 0 0
  refine z_aload_n (pc := 0) hG 0 rfl rfl dX11_init_0 ?_
  refine z_objinit (pc := 1) hG w793 w67 w_oin (Nat.le_of_ble_eq_true rfl) dX11_init_1 ?_
  refine z_aload_n (pc := 4) hG 0 rfl rfl dX11_init_4 ?_
  refine z_iload_n (pc := 5) hG 1 rfl rfl dX11_init_5 ?_
  refine z_puti (pc := 6) hG zc_X11 inX11 tyX11 tyX11_ok nmX11 hd 0 rfl (by decide) rfl w794 rfl rfl rfl dX11_init_6 ?_
  exact z_vret (pc := 9) hG rfl hk dX11_init_9
theorem c_latM {l : Launch} (hl0 : l.flags = flags0) {dl : List zDs} {σ : zS} {s b : Nat} (hM : zstM dl s b) (hsc : σ.1 s 1 = 0) : zC l yJ0_isLatin1_aae02 cJ0_isLatin1_aae02 1 (Option.some Jvm.ClassFile.FieldType.boolean) 0 0 0 [.ref s] dl σ (.inl (some (.int 1)), dl, σ) := by
  obtain ⟨hs, ⟨n1, hb⟩, hs27, hb27, hms⟩ := id hM
  have hos : zoks dl.length (.ref s) = true := zoks_of hs hs27
  have hob : zoks dl.length (.ref b) = true := zoks_of hb hb27
  refine zC_of hl0 rfl (Nat.le_of_ble_eq_true rfl) (fun x hG hxl hk _ => ?_)
  subst hxl
  show zK x 0 0 [(0, .ref s)] [] dl σ 0 0
  refine z_cstr (pc := 0) hG w915 dJ0_isLatin1_aae02_0 ?_
  refine z_if_eq (pc := 3) (tgt := 17) hG dJ0_isLatin1_aae02_3 rfl (fun hbr => False.elim ((fun h => absurd h (by decide)) hbr)) (fun _ => ?_)
  refine z_aload_n (pc := 6) hG 0 rfl rfl dJ0_isLatin1_aae02_6 ?_
  refine z_geti (pc := 7) hG zc_J0 inJ0 hs 1 rfl (by decide) rfl w1060 dJ0_isLatin1_aae02_7 ?_
  rw [show (σ.1 s 1) = 0 from hsc]
  refine z_if_ne (pc := 10) (tgt := 17) hG dJ0_isLatin1_aae02_10 rfl (fun hbr => False.elim ((fun h => h rfl) hbr)) (fun _ => ?_)
  refine z_iconst (pc := 13) (v := (1 : Int32)) hG (by decide) dJ0_isLatin1_aae02_13 ?_
  refine z_goto (pc := 14) (tgt := 18) hG dJ0_isLatin1_aae02_14 rfl ?_
  exact z_iret (pc := 18) hG rfl rfl hk dJ0_isLatin1_aae02_18
theorem nar_c {c : Nat} (hc : c < 256) : narrow .char (.int (nI c)) = .int (nI c) := by
  have h := pk_nc (nI c)
  rw [(sb_byte c hc).2.1] at h
  exact h
theorem zmix_self {σ : zS} : zmix σ σ = σ := by
  unfold zmix
  simp
theorem c_ckI {l : Launch} (hl0 : l.flags = flags0) {E : List zDs} (hE : E.all zfr1 = true) {σ : zS} {i L : Nat} (hi : i < L) (hL : L < 2147483648) : zC l yJ0_checkIndex_df160 cJ0_checkIndex_df160 2 (Option.none : Option Jvm.ClassFile.FieldType) 1 0 0 [.int (nI i), .int (nI L)] (zD ++ E) σ (.inl none, zD ++ E, σ) := by
  have h : nJ0_checkIndex_df160 (nI i) (nI L) = some () := by
    unfold nJ0_checkIndex_df160 nJ3_checkIndex_8e157_n
    rw [if_neg (nI_nn (by omega)), if_pos (nI_lt hi hL)]
    rfl
  have h2 := zC_fr hE (fun i h => by cases h) (tJ0_checkIndex_df160 hl0 (nI i) (nI L) σ h)
  rw [zmix_self] at h2
  exact h2
theorem c_chA {l : Launch} (hl0 : l.flags = flags0) {σ : zS} {E : List zDs} (hE : E.all zfr1 = true) {b i n1 c : Nat} (hb : (zD ++ E)[b]? = some (.inr (5, n1))) (hb27 : b ≠ 27) (hi : i < zLn σ b) (hL : zLn σ b < 2147483648) (hc : c < 256) (hbc : σ.1 b i = sb_b c) : zC l yJ1_charAt_3b067 cJ1_charAt_3b067 2 (Option.some Jvm.ClassFile.FieldType.char) 2 0 0 [.ref b, .int (nI i)] (zD ++ E) σ (.inl (some (.int (nI c))), zD ++ E, σ) := by
  have hob : zoks (zD ++ E).length (.ref b) = true := zoks_of hb hb27
  refine zC_of hl0 rfl (Nat.le_of_ble_eq_true rfl) (fun x hG hxl hk _ => ?_)
  subst hxl
  show zK x 2 0 [(0, .ref b), (1, .int ((nI i)))] [] (zD ++ E) σ 0 0
  refine z_iload_n (pc := 0) hG 1 rfl rfl dJ1_charAt_3b067_0 ?_
  refine z_aload_n (pc := 1) hG 0 rfl rfl dJ1_charAt_3b067_1 ?_
  refine z_alen5 (pc := 2) hG hb dJ1_charAt_3b067_2 ?_
  refine z_statS (pc := 3) (A' := 0) (B' := 0) (st2 := []) (v := none) hG [.int ((nI i)), .int ((nI (zLn σ b)))] [] (c_ckI hl0 hE hi hL) zy_J0_checkIndex_df160 w967 w1091 dJ1_charAt_3b067_3 rfl (Nat.le_of_ble_eq_true rfl) (Nat.le_refl _) rfl (zand hob (zand rfl rfl)) rfl rfl (Nat.le_of_ble_eq_true rfl) rfl rfl ?_
  refine z_aload_n (pc := 6) hG 0 rfl rfl dJ1_charAt_3b067_6 ?_
  refine z_iload_n (pc := 7) hG 1 rfl rfl dJ1_charAt_3b067_7 ?_
  refine z_bald5 (pc := 8) hG hb (vp_in_nI hi hL) dJ1_charAt_3b067_8 ?_
  rw [nI_clamp (show i < 2 ^ 31 by omega), show σ.1 b i = sb_b c from hbc]
  refine z_sipush (pc := 9) (v := (255 : Int32)) hG (by decide) dJ1_charAt_3b067_9 ?_
  refine z_iand (pc := 12) hG dJ1_charAt_3b067_12 ?_
  rw [show ((sb_b c) &&& (255 : Int32)) = (nI c) from (sb_byte c hc).1]
  refine z_i2c (pc := 13) hG dJ1_charAt_3b067_13 ?_
  rw [show ((nI c).toUInt32 % 65536).toInt32 = (nI c) from (sb_byte c hc).2.1]
  exact z_iret (pc := 14) hG rfl (nar_c hc) hk dJ1_charAt_3b067_14
theorem c_chM {l : Launch} (hl0 : l.flags = flags0) {σ : zS} {E : List zDs} (hE : E.all zfr1 = true) {s b i : Nat} {T : List Nat} (hM : zstM (zD ++ E) s b) (hU : zstL σ s b T) (hi : i < T.length) : zC l yJ0_charAt_5068e cJ0_charAt_5068e 2 (Option.some Jvm.ClassFile.FieldType.char) 3 0 0 [.ref s, .int (nI i)] (zD ++ E) σ (.inl (some (.int (nI (lb T i)))), zD ++ E, σ) := by
  obtain ⟨hs, ⟨n1, hb⟩, hs27, hb27, hms⟩ := id hM
  have hos : zoks (zD ++ E).length (.ref s) = true := zoks_of hs hs27
  have hob : zoks (zD ++ E).length (.ref b) = true := zoks_of hb hb27
  refine zC_of hl0 rfl (Nat.le_of_ble_eq_true rfl) (fun x hG hxl hk _ => ?_)
  subst hxl
  show zK x 3 0 [(0, .ref s), (1, .int ((nI i)))] [] (zD ++ E) σ 0 0
  refine z_aload_n (pc := 0) hG 0 rfl rfl dJ0_charAt_5068e_0 ?_
  refine z_virtS (pc := 1) (A' := 0) (B' := 0) (st2 := [.int ((1 : Int32))]) (v := some (.int ((1 : Int32)))) hG [] [] zc_J0 hs (c_latM hl0 hM hU.1) zy_J0_isLatin1_aae02 ⟨w1085, w1086⟩ w1084 dJ0_charAt_5068e_1 rfl (Nat.le_of_ble_eq_true rfl) (Nat.le_refl _) rfl (zand hos (zand rfl rfl)) rfl rfl (Nat.le_of_ble_eq_true rfl) rfl rfl ?_
  refine z_if_eq (pc := 4) (tgt := 16) hG dJ0_charAt_5068e_4 rfl (fun hbr => False.elim ((fun h => absurd h (by decide)) hbr)) (fun _ => ?_)
  refine z_aload_n (pc := 7) hG 0 rfl rfl dJ0_charAt_5068e_7 ?_
  refine z_getr (pc := 8) hG zc_J0 inJ0 hs 0 rfl (by decide) rfl w1059 dJ0_charAt_5068e_8 ?_
  refine z_iload_n (pc := 11) hG 1 rfl rfl dJ0_charAt_5068e_11 ?_
  refine z_statS (pc := 12) (A' := 0) (B' := 0) (st2 := [.int ((nI (lb T i)))]) (v := some (.int ((nI (lb T i))))) hG [.ref b, .int ((nI i))] [] (c_chA hl0 hE hb hb27 (by rw [hU.2.1]; exact hi) (by rw [hU.2.1]; have := hU.2.2.1; omega) (hU.2.2.2.1 i hi).1 (hU.2.2.2.1 i hi).2) zy_J1_charAt_3b067 w1089 w1088 dJ0_charAt_5068e_12 rfl (Nat.le_of_ble_eq_true rfl) (Nat.le_refl _) rfl (zand hos (zand rfl rfl)) rfl rfl (Nat.le_of_ble_eq_true rfl) rfl rfl ?_
  exact z_iret (pc := 15) hG rfl (nar_c (hU.2.2.2.1 i hi).1) hk dJ0_charAt_5068e_15
/-! words of four letters -/
/-- what stands in the word a when i letters of the row c are in -/
def wwd (c : Nat → Nat) : Nat → Nat → Nat
  | 0, _ => 0
  | i + 1, a => if a = i / 4 then wwd c i a ||| (c i <<< (24 - 8 * (i % 4))) else wwd c i a
theorem wwd_bit {c : Nat → Nat} (hc : ∀ j, c j < 128) : ∀ i a t, (wwd c i a).testBit t = true ↔ ∃ j, j < i ∧ j / 4 = a ∧ 24 - 8 * (j % 4) ≤ t ∧ (c j).testBit (t - (24 - 8 * (j % 4))) = true
  | 0, a, t => by
    show (0 : Nat).testBit t = true ↔ _
    rw [Nat.zero_testBit]
    exact ⟨fun h => (by cases h), fun ⟨j, hj, _⟩ => absurd hj (Nat.not_lt_zero j)⟩
  | i + 1, a, t => by
    have ih := wwd_bit hc i a t
    show (if a = i / 4 then wwd c i a ||| (c i <<< (24 - 8 * (i % 4))) else wwd c i a).testBit t = true ↔ _
    by_cases h : a = i / 4
    · rw [if_pos h, Nat.testBit_or, Bool.or_eq_true, ih, Nat.testBit_shiftLeft, Bool.and_eq_true, decide_eq_true_eq]
      constructor
      · rintro (⟨j, h1, h2⟩ | ⟨h1, h2⟩)
        · exact ⟨j, by omega, h2⟩
        · exact ⟨i, by omega, h.symm, h1, h2⟩
      · rintro ⟨j, h1, h2, h3, h4⟩
        by_cases hj : j = i
        · subst hj
          exact Or.inr ⟨h3, h4⟩
        · exact Or.inl ⟨j, by omega, h2, h3, h4⟩
    · rw [if_neg h, ih]
      constructor
      · rintro ⟨j, h1, h2⟩
        exact ⟨j, by omega, h2⟩
      · rintro ⟨j, h1, h2, h3⟩
        exact ⟨j, by have : j ≠ i := fun e => h (by rw [← h2, e]); omega, h2, h3⟩
theorem wwd_lt {c : Nat → Nat} (hc : ∀ j, c j < 128) (i a : Nat) : wwd c i a < 2147483648 := by
  refine Nat.lt_of_not_le fun hle => ?_
  obtain ⟨t, ht, hb⟩ := Nat.exists_ge_and_testBit_of_ge_two_pow (n := 31) hle
  obtain ⟨j, _, _, h3, h4⟩ := (wwd_bit hc i a t).mp hb
  have := hc j
  rw [Nat.testBit_lt_two_pow (Nat.lt_of_lt_of_le (hc j) (Nat.pow_le_pow_right (n := 2) (by decide) (show 7 ≤ t - (24 - 8 * (j % 4)) by omega)))] at h4
  cases h4
/-- the letters out of the words -/
theorem fb_wwd {c : Nat → Nat} (hc : ∀ j, c j < 128) {m j : Nat} (hj : j < 20) : fbA (fun a => nI (wwd c m a)) j = if j < m then c j else 0 := by
  unfold fbA b8
  have e1 : nI (wwd c m (j / 4)) >>> (nI (24 - 8 * (j % 4)) &&& 31) = nI (wwd c m (j / 4) >>> (24 - 8 * (j % 4))) := nI_shr (wwd_lt hc m _) (by omega)
  show ((nI (wwd c m (j / 4)) >>> (nI (24 - 8 * (j % 4)) &&& 31)) &&& 255).toBitVec.toNat = _
  rw [e1]
  have hlt : wwd c m (j / 4) >>> (24 - 8 * (j % 4)) < 2 ^ 32 := Nat.lt_of_le_of_lt (Nat.shiftRight_le _ _) (Nat.lt_trans (wwd_lt hc m _) (by decide))
  rw [pk_andN hlt 8 (by decide), pk_tn (Nat.lt_of_lt_of_le (Nat.mod_lt _ (by decide)) (by decide))]
  apply Nat.eq_of_testBit_eq
  intro t
  rw [Nat.testBit_mod_two_pow, Nat.testBit_shiftRight]
  by_cases ht : t < 8
  · rw [decide_eq_true ht, Bool.true_and]
    by_cases hb : (wwd c m (j / 4)).testBit (24 - 8 * (j % 4) + t) = true
    · obtain ⟨q, h1, h2, h3, h4⟩ := (wwd_bit hc m (j / 4) (24 - 8 * (j % 4) + t)).mp hb
      have hq : q = j := by
        by_cases hlt : 24 - 8 * (j % 4) + t - (24 - 8 * (q % 4)) < 8
        · omega
        · rw [Nat.testBit_lt_two_pow (Nat.lt_of_lt_of_le (hc q) (Nat.pow_le_pow_right (n := 2) (by decide) (show 7 ≤ 24 - 8 * (j % 4) + t - (24 - 8 * (q % 4)) by omega)))] at h4
          cases h4
      subst hq
      rw [hb, if_pos h1]
      rw [show 24 - 8 * (q % 4) + t - (24 - 8 * (q % 4)) = t by omega] at h4
      exact h4.symm
    · have hb' : (wwd c m (j / 4)).testBit (24 - 8 * (j % 4) + t) = false := by
        cases h : (wwd c m (j / 4)).testBit (24 - 8 * (j % 4) + t)
        · rfl
        · exact absurd h hb
      rw [hb']
      by_cases hm : j < m
      · rw [if_pos hm]
        cases h : (c j).testBit t
        · rfl
        · exact absurd ((wwd_bit hc m (j / 4) (24 - 8 * (j % 4) + t)).mpr ⟨j, hm, rfl, by omega, by rw [show 24 - 8 * (j % 4) + t - (24 - 8 * (j % 4)) = t by omega]; exact h⟩) hb
      · rw [if_neg hm, Nat.zero_testBit]
  · rw [decide_eq_false ht, Bool.false_and]
    by_cases hm : j < m
    · rw [if_pos hm, Nat.testBit_lt_two_pow (Nat.lt_of_lt_of_le (hc j) (Nat.pow_le_pow_right (n := 2) (by decide) (show 7 ≤ t by omega)))]
    · rw [if_neg hm, Nat.zero_testBit]
