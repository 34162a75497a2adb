/-! ===== append(String) ===== -/
section ZCT
variable {x : zXx} {cc bytes : ByteArray} {nL maxL : Nat} {own : String} {ret ret' : Option FieldType} {F fr pc : Nat} {ls : List (Nat × Value)} {st rest st2 : List Value} {dl dl' : List zDs} {σ σ' : zS} {A B A' B' nc ns n index : Nat} {y z : MethodName} {v : Option Value}
theorem z_nonnull {i : Nat} {off : Int} {tgt : Nat} (hG : zG x cc nL own ret) (hd : decode cc pc = .ok (.ifnonnull off, 3)) (ht : (pc : Int) + off = (tgt : Int)) (k : zK x F tgt ls st dl σ A B) : zK x F pc ls (.ref i :: st) dl σ A B := by
  obtain ⟨p, l, e, R, s, m, args, below, meth, c, D, ca, b0, ad0, n0, tg⟩ := x
  obtain ⟨hx, hb, hml, hown, hts, hret, hlk, htab, hKs, hOs, hfl⟩ := hG
  intro ad H locs la cells slots h1 h2 h3 h4 h5 h6 h7 h8 h9 h10
  exact lv_ifnonnull hx hb hd ht (k ad H locs la cells slots h1 h2 h3 h4 h5 h6 h7 h8 h9 h10)
theorem z_null (hG : zG x cc nL own ret) (hd : decode cc pc = .ok (.aconst_null, 1)) (k : zK x F (pc + 1) ls (.null :: st) dl σ A B) : zK x F pc ls st dl σ A B := by
  obtain ⟨p, l, e, R, s, m, args, below, meth, c, D, ca, b0, ad0, n0, tg⟩ := x
  obtain ⟨hx, hb, hml, hown, hts, hret, hlk, htab, hKs, hOs, hfl⟩ := hG
  intro ad H locs la cells slots h1 h2 h3 h4 h5 h6 h7 h8 h9 h10
  exact lv_null hx hb hd (k ad H locs la cells slots h1 h2 h3 h4 h5 h6 h7 h8 h9 h10)
/-- a method of one of the law's texts is called -/
theorem z_virtT {i : Nat} (hG : zG x cc nL own ret) (As rest : List Value) (hq : zsq2 i = true) (hC : zC (zl0 x) y bytes maxL ret' fr nc ns (.ref i :: As) dl σ (.inl v, dl', σ')) (hy : zY y bytes maxL ret' n) (hs : Cond.instanceMethod y ∈ zT ∧ Cond.selects "java/lang/String" y y ∈ zT) (hl : Cond.methodLink own index y ∈ zT) (hd : decode cc pc = .ok (.invokevirtual index, 3)) (hn : As.length = n) (hF : fr + 1 ≤ F)
    (hle : dl.length ≤ dl'.length) (hst : rest.all (zoks dl.length) = true) (hls : ls.all (fun q => zoks dl.length q.2) = true) (hA : A = A' + nc) (hB : B = B' + ns) (hW : (rest.map fun v => v.category).sum ≤ 8) (hstk : st = As.reverse ++ .ref i :: rest) (h2 : v.toList ++ rest = st2)
    (kk : zK x F (pc + 3) ls st2 dl' σ' A' B') : zK x F pc ls st dl σ A B := by
  subst hstk
  subst h2
  refine z_afterS hG hle hst hls hA hB kk ?_
  obtain ⟨p, l, e, R, s, m, args, below, meth, c, D, ca, b0, ad0, n0, tg⟩ := x
  obtain ⟨hx, hb, hml, hown, hts, hret, hlk, htab, hKs, hOs, hfl⟩ := hG
  intro ad H locs la cells slots h1 h3 h4 h5 h7 h8 h6 h9 h10
  have hrec : ∃ cell : Cell, H[ad i]? = some cell ∧ cell.vm.isStatics = false ∧ s.vm.findClass "java/lang/String" = some cell.cls := by
    obtain ⟨cell, q1, q2, q3, q4⟩ := ((hOs.1.2.2.2.ad h1.hi).str2 hq).1
    exact ⟨cell, (h5.2.1 _ (Array.getElem?_eq_some_iff.mp q1).1 q4).trans q1, q2, q3⟩
  exact ⟨_, vx_runV (C := "java/lang/String") (As := As.map (zr ad)) ⟨hx, hb, rfl, hown, hts⟩ (hC D (zcs ca) b0 ad) ⟨zC_callB hts hy hl hF h9 h10, hts _ hs.1, hts _ hs.2⟩ ⟨zC_blind, hrec, fun U hU hW => ⟨rfl, (zWD_ca zcs_lo).mpr ⟨by rw [hU]; exact h3, va_K.moved hW.alike hKs, h4, by rw [hU]; exact ((hOs.1.kept h5.1 h5.2.1).moved hW.alike).ad h1.hi⟩, (hOs.2.warm hW).ad h1.hi⟩⟩ rfl (by rw [List.length_map]; exact hn) h6 (by rw [List.map_append, List.map_reverse]; rfl) (lv_room (by rw [List.map_map]; exact Nat.le_trans (Nat.le_of_eq (congrArg List.sum (List.map_congr_left fun v _ => zr_cat ad v))) hW)) hd ⟨h7, h8⟩⟩
end ZCT
abbrev zST (b : Nat) : zDs := .inl (11, [(1, b), (0, 0), (0, 0), (0, 0)])
theorem zsq2_lo {q : Nat} (h : zsq2 q = true) : 1000 ≤ q ∧ q < 1015 := by
  unfold zsq2 at h
  rwa [Bool.and_eq_true, decide_eq_true_eq, decide_eq_true_eq] at h
/-- the letters of one of the law's texts as numbers -/
def ltx (q : Nat) : Nat → Nat := fun k => (lbf q k).toNatClampNeg
theorem lbf_all : ∀ q, q < 15 → zcpb (lbf (1000 + q)) 0 (nI (llen.getD (1000 + q - 1000) 0)) = true ∧ llen.getD (1000 + q - 1000) 0 ≤ 8 ∧ ∀ k, k < llen.getD (1000 + q - 1000) 0 → ltx (1000 + q) k < 256 ∧ lbf (1000 + q) k = sb_b (ltx (1000 + q) k) := by decide +kernel
theorem lbf_ok {q L : Nat} (hq : zsq2 q = true) (hL : llen.getD (q - 1000) 0 = L) : zcpb (lbf q) 0 (nI L) = true ∧ L ≤ 8 ∧ ∀ k, k < L → ltx q k < 256 ∧ lbf q k = sb_b (ltx q k) := by
  subst hL
  obtain ⟨h1, h2⟩ := zsq2_lo hq
  have h := lbf_all (q - 1000) (by omega)
  rwa [show 1000 + (q - 1000) = q from by omega] at h
theorem fits_all {f : Nat → Int32} {n : Nat} (h : sb_Fit f) : zcpb f 0 (nI n) = true := List.all_eq_true.mpr fun k _ => h _
theorem cpo_ok {n L m : Nat} (hn : n + L ≤ m) (hm : m < 2147483648) : zcpo 0 (nI n) (nI L) L m = true := decide_eq_true ⟨by decide, nI_pos (by omega), nI_pos (by omega), by rw [nI_clamp (by omega)]; show 0 + L ≤ L; omega, by rw [nI_clamp (by omega), nI_clamp (by omega)]; exact hn⟩
/-- the made string s with the bytes b, in any world; what it holds -/
def zstM (dl : List zDs) (s b : Nat) : Prop := (dl[s]? = some (zST b)) ∧ (∃ n, dl[b]? = some (.inr (5, n))) ∧ s ≠ 27 ∧ b ≠ 27 ∧ zMv s = false
def zstA (σ : zS) (s b : Nat) (u : Nat → Nat) (L : Nat) : Prop := σ.1 s 1 = 0 ∧ zLn σ b = L ∧ L ≤ 1000 ∧ sb_Lat u L (σ.1 b) ∧ sb_Fit (σ.1 b)
theorem lbf_fitA : ∀ q, q < 15 → ∀ k, k < 9 → fits .byte (.int (lbf (1000 + q) k)) = true := by decide +kernel
theorem lbf_fit {q : Nat} (hq : zsq2 q = true) : sb_Fit (lbf q) := by
  obtain ⟨h1, h2⟩ := zsq2_lo hq
  intro k
  by_cases hk : k < 9
  · have h := lbf_fitA (q - 1000) (by omega) k hk
    rwa [show 1000 + (q - 1000) = q from by omega] at h
  · have h9 : ∀ a, a < 15 → (lbyt.getD a []).length ≤ 8 := by decide
    have h8 : lbf q k = 0 := by
      show (lbyt.getD (q - 1000) []).getD k 0 = 0
      rw [List.getD_eq_getElem?_getD, List.getElem?_eq_none (by have := h9 (q - 1000) (by omega); omega)]
      rfl
    rw [h8]
    decide
theorem c_codT {l : Launch} (hl0 : l.flags = flags0) {dl : List zDs} {σ : zS} {q : Nat} (hq : zsq2 q = true) : zC l yJ0_coder_7d493 cJ0_coder_7d493 1 (Option.some Jvm.ClassFile.FieldType.byte) 0 0 0 [.ref q] dl σ (.inl (some (.int 0)), dl, σ) := by
  have hoq : zoks dl.length (.ref q) = true := zoks_hi (by have := (zsq2_lo hq).1; omega)
  refine zC_of hl0 rfl (Nat.le_of_ble_eq_true rfl) (fun x hG hxl hk _ => ?_)
  subst hxl
  show zK x 0 0 [(0, .ref q)] [] dl σ 0 0
  refine z_cstr (pc := 0) hG w915 dJ0_coder_7d493_0 ?_
  refine z_if_eq (pc := 3) (tgt := 13) hG dJ0_coder_7d493_3 rfl (fun hbr => False.elim ((fun h => absurd h (by decide)) hbr)) (fun _ => ?_)
  refine z_aload_n (pc := 6) hG 0 rfl rfl dJ0_coder_7d493_6 ?_
  refine z_scod2 (pc := 7) hG hq w1060 dJ0_coder_7d493_7 ?_
  refine z_goto (pc := 10) (tgt := 14) hG dJ0_coder_7d493_10 rfl ?_
  exact z_iret (pc := 14) hG rfl rfl hk dJ0_coder_7d493_14
theorem c_lenT {l : Launch} (hl0 : l.flags = flags0) {dl : List zDs} {σ : zS} {q : Nat} (hq : zsq2 q = true) {L : Nat} (hL : llen.getD (q - 1000) 0 = L) : zC l yJ0_length_8abf5 cJ0_length_8abf5 1 (Option.some Jvm.ClassFile.FieldType.int) 1 0 0 [.ref q] dl σ (.inl (some (.int (nI L))), dl, σ) := by
  have hoq : zoks dl.length (.ref q) = true := zoks_hi (by have := (zsq2_lo hq).1; omega)
  refine zC_of hl0 rfl (Nat.le_of_ble_eq_true rfl) (fun x hG hxl hk _ => ?_)
  subst hxl
  show zK x 1 0 [(0, .ref q)] [] dl σ 0 0
  refine z_aload_n (pc := 0) hG 0 rfl rfl dJ0_length_8abf5_0 ?_
  refine z_sval2 (pc := 1) hG hq w1059 dJ0_length_8abf5_1 ?_
  refine z_slen2 (pc := 4) hG hq rfl dJ0_length_8abf5_4 ?_
  rw [show (nI (llen.getD (q - 1000) 0)) = (nI L) from congrArg nI hL]
  refine z_aload_n (pc := 5) hG 0 rfl rfl dJ0_length_8abf5_5 ?_
  refine z_virtT (pc := 6) (A' := 0) (B' := 0) (st2 := [.int ((0 : Int32)), .int ((nI L))]) (v := some (.int ((0 : Int32)))) hG [] [.int ((nI L))] hq (c_codT hl0 hq) zy_J0_coder_7d493 ⟨w912, w913⟩ w911 dJ0_length_8abf5_6 rfl (Nat.le_of_ble_eq_true rfl) (Nat.le_refl _) (zand rfl rfl) (zand hoq rfl) rfl rfl (Nat.le_of_ble_eq_true rfl) rfl rfl ?_
  refine z_ishr (pc := 9) hG dJ0_length_8abf5_9 ?_
  rw [show ((nI L) >>> ((0 : Int32) &&& 31)) = (nI L) from sb_shr0 _]
  exact z_iret (pc := 10) hG rfl rfl hk dJ0_length_8abf5_10
theorem dJ0_getBytes_840e7_0 : decode cJ0_getBytes_840e7 0 = .ok (.aload_n 0, 1) := by decide +kernel
theorem dJ0_getBytes_840e7_1 : decode cJ0_getBytes_840e7 1 = .ok (.invokevirtual 335, 3) := by decide +kernel
theorem dJ0_getBytes_840e7_4 : decode cJ0_getBytes_840e7 4 = .ok (.iload_n 3, 1) := by decide +kernel
theorem dJ0_getBytes_840e7_5 : decode cJ0_getBytes_840e7 5 = .ok (.if_icmp .ne 23, 3) := by decide +kernel
theorem dJ0_getBytes_840e7_8 : decode cJ0_getBytes_840e7 8 = .ok (.aload_n 0, 1) := by decide +kernel
theorem dJ0_getBytes_840e7_9 : decode cJ0_getBytes_840e7 9 = .ok (.getfield 9, 3) := by decide +kernel
theorem dJ0_getBytes_840e7_12 : decode cJ0_getBytes_840e7 12 = .ok (.iconst 0, 1) := by decide +kernel
theorem dJ0_getBytes_840e7_13 : decode cJ0_getBytes_840e7 13 = .ok (.aload_n 1, 1) := by decide +kernel
theorem dJ0_getBytes_840e7_14 : decode cJ0_getBytes_840e7 14 = .ok (.iload_n 2, 1) := by decide +kernel
theorem dJ0_getBytes_840e7_15 : decode cJ0_getBytes_840e7 15 = .ok (.iload_n 3, 1) := by decide +kernel
theorem dJ0_getBytes_840e7_16 : decode cJ0_getBytes_840e7 16 = .ok (.ishl, 1) := by decide +kernel
theorem dJ0_getBytes_840e7_17 : decode cJ0_getBytes_840e7 17 = .ok (.aload_n 0, 1) := by decide +kernel
theorem dJ0_getBytes_840e7_18 : decode cJ0_getBytes_840e7 18 = .ok (.getfield 9, 3) := by decide +kernel
theorem dJ0_getBytes_840e7_21 : decode cJ0_getBytes_840e7 21 = .ok (.arraylength, 1) := by decide +kernel
theorem dJ0_getBytes_840e7_22 : decode cJ0_getBytes_840e7 22 = .ok (.invokestatic 212, 3) := by decide +kernel
theorem dJ0_getBytes_840e7_25 : decode cJ0_getBytes_840e7 25 = .ok (.goto 18, 3) := by decide +kernel
theorem dJ0_getBytes_840e7_28 : decode cJ0_getBytes_840e7 28 = .ok (.aload_n 0, 1) := by decide +kernel
theorem dJ0_getBytes_840e7_29 : decode cJ0_getBytes_840e7 29 = .ok (.getfield 9, 3) := by decide +kernel
theorem dJ0_getBytes_840e7_32 : decode cJ0_getBytes_840e7 32 = .ok (.iconst 0, 1) := by decide +kernel
theorem dJ0_getBytes_840e7_33 : decode cJ0_getBytes_840e7 33 = .ok (.aload_n 1, 1) := by decide +kernel
theorem dJ0_getBytes_840e7_34 : decode cJ0_getBytes_840e7 34 = .ok (.iload_n 2, 1) := by decide +kernel
theorem dJ0_getBytes_840e7_35 : decode cJ0_getBytes_840e7 35 = .ok (.aload_n 0, 1) := by decide +kernel
theorem dJ0_getBytes_840e7_36 : decode cJ0_getBytes_840e7 36 = .ok (.getfield 9, 3) := by decide +kernel
theorem dJ0_getBytes_840e7_39 : decode cJ0_getBytes_840e7 39 = .ok (.arraylength, 1) := by decide +kernel
theorem dJ0_getBytes_840e7_40 : decode cJ0_getBytes_840e7 40 = .ok (.invokestatic 106, 3) := by decide +kernel
theorem dJ0_getBytes_840e7_43 : decode cJ0_getBytes_840e7 43 = .ok (.return_, 1) := by decide +kernel
theorem c_bytT {l : Launch} (hl0 : l.flags = flags0) {dl : List zDs} {σ : zS} {q : Nat} (hq : zsq2 q = true) {L : Nat} (hL : llen.getD (q - 1000) 0 = L) {j n n0 : Nat} (hj : dl[j]? = some (.inr (5, n0))) (hj27 : j ≠ 27) (hn : n + L ≤ zLn σ j) (hm : zLn σ j < 2147483648) : zC l yJ0_getBytes_840e7 cJ0_getBytes_840e7 4 (Option.none : Option Jvm.ClassFile.FieldType) 1 0 0 [.ref q, .ref j, .int (nI n), .int 0] dl σ (.inl none, dl, zir σ j (va_cpy (lbf q) (σ.1 j) (0 : Int32).toNatClampNeg (nI n).toNatClampNeg (nI L).toNatClampNeg)) := by
  have hoq : zoks dl.length (.ref q) = true := zoks_hi (by have := (zsq2_lo hq).1; omega)
  have hoj : zoks dl.length (.ref j) = true := zoks_of hj hj27
  refine zC_of hl0 rfl (Nat.le_of_ble_eq_true rfl) (fun x hG hxl hk _ => ?_)
  subst hxl
  show zK x 1 0 [(0, .ref q), (1, .ref j), (2, .int ((nI n))), (3, .int ((0 : Int32)))] [] dl σ 0 0
  refine z_aload_n (pc := 0) hG 0 rfl rfl dJ0_getBytes_840e7_0 ?_
  refine z_virtT (pc := 1) (A' := 0) (B' := 0) (st2 := [.int ((0 : Int32))]) (v := some (.int ((0 : Int32)))) hG [] [] hq (c_codT hl0 hq) zy_J0_coder_7d493 ⟨w912, w913⟩ w911 dJ0_getBytes_840e7_1 rfl (Nat.le_of_ble_eq_true rfl) (Nat.le_refl _) rfl (zand hoq (zand hoj (zand rfl (zand rfl rfl)))) rfl rfl (Nat.le_of_ble_eq_true rfl) rfl rfl ?_
  refine z_iload_n (pc := 4) hG 3 rfl rfl dJ0_getBytes_840e7_4 ?_
  refine z_icmp_ne (pc := 5) (tgt := 28) hG dJ0_getBytes_840e7_5 rfl (fun hbr => False.elim ((fun h => h rfl) hbr)) (fun _ => ?_)
  refine z_aload_n (pc := 8) hG 0 rfl rfl dJ0_getBytes_840e7_8 ?_
  refine z_sval2 (pc := 9) hG hq w1059 dJ0_getBytes_840e7_9 ?_
  refine z_iconst (pc := 12) (v := (0 : Int32)) hG (by decide) dJ0_getBytes_840e7_12 ?_
  refine z_aload_n (pc := 13) hG 1 rfl rfl dJ0_getBytes_840e7_13 ?_
  refine z_iload_n (pc := 14) hG 2 rfl rfl dJ0_getBytes_840e7_14 ?_
  refine z_iload_n (pc := 15) hG 3 rfl rfl dJ0_getBytes_840e7_15 ?_
  refine z_ishl (pc := 16) hG dJ0_getBytes_840e7_16 ?_
  rw [show ((nI n) <<< ((0 : Int32) &&& 31)) = (nI n) from sb_shl0 _]
  refine z_aload_n (pc := 17) hG 0 rfl rfl dJ0_getBytes_840e7_17 ?_
  refine z_sval2 (pc := 18) hG hq w1059 dJ0_getBytes_840e7_18 ?_
  refine z_slen2 (pc := 21) hG hq rfl dJ0_getBytes_840e7_21 ?_
  rw [show (nI (llen.getD (q - 1000) 0)) = (nI L) from congrArg nI hL]
  refine z_copyT (pc := 22) (m1 := zLn σ j) hG hq rfl hj (fun _ _ => rfl) (fun _ _ _ => rfl) w948 w186 w185 w18 (Nat.le_of_ble_eq_true rfl) (by rw [hL]; exact cpo_ok hn hm) (lbf_ok hq hL).1 dJ0_getBytes_840e7_22 ?_
  refine z_goto (pc := 25) (tgt := 43) hG dJ0_getBytes_840e7_25 rfl ?_
  exact z_vret (pc := 43) hG rfl hk dJ0_getBytes_840e7_43
theorem dJ5_inflateIfNeededFor_a7421_0 : decode cJ5_inflateIfNeededFor_a7421 0 = .ok (.getstatic 18, 3) := by decide +kernel
theorem dJ5_inflateIfNeededFor_a7421_3 : decode cJ5_inflateIfNeededFor_a7421 3 = .ok (.ifCond .eq 18, 3) := by decide +kernel
theorem dJ5_inflateIfNeededFor_a7421_6 : decode cJ5_inflateIfNeededFor_a7421 6 = .ok (.aload_n 0, 1) := by decide +kernel
theorem dJ5_inflateIfNeededFor_a7421_7 : decode cJ5_inflateIfNeededFor_a7421 7 = .ok (.getfield 22, 3) := by decide +kernel
theorem dJ5_inflateIfNeededFor_a7421_10 : decode cJ5_inflateIfNeededFor_a7421 10 = .ok (.aload_n 1, 1) := by decide +kernel
theorem dJ5_inflateIfNeededFor_a7421_11 : decode cJ5_inflateIfNeededFor_a7421 11 = .ok (.invokevirtual 40, 3) := by decide +kernel
theorem dJ5_inflateIfNeededFor_a7421_14 : decode cJ5_inflateIfNeededFor_a7421 14 = .ok (.if_icmp .eq 7, 3) := by decide +kernel
theorem dJ5_inflateIfNeededFor_a7421_17 : decode cJ5_inflateIfNeededFor_a7421 17 = .ok (.aload_n 0, 1) := by decide +kernel
theorem dJ5_inflateIfNeededFor_a7421_18 : decode cJ5_inflateIfNeededFor_a7421 18 = .ok (.invokevirtual 195, 3) := by decide +kernel
theorem dJ5_inflateIfNeededFor_a7421_21 : decode cJ5_inflateIfNeededFor_a7421 21 = .ok (.return_, 1) := by decide +kernel
theorem c_infT {l : Launch} (hl0 : l.flags = flags0) {dl : List zDs} {σ : zS} {q : Nat} (hq : zsq2 q = true) {i j : Nat} (hi : dl[i]? = some (zSB j)) (hi27 : i ≠ 27) (hc : σ.1 i 1 = 0) : zC l yJ5_inflateIfNeededFor_a7421 cJ5_inflateIfNeededFor_a7421 2 (Option.none : Option Jvm.ClassFile.FieldType) 1 0 0 [.ref i, .ref q] dl σ (.inl none, dl, σ) := by
  have hoq : zoks dl.length (.ref q) = true := zoks_hi (by have := (zsq2_lo hq).1; omega)
  have hoi : zoks dl.length (.ref i) = true := zoks_of hi hi27
  refine zC_of hl0 rfl (Nat.le_of_ble_eq_true rfl) (fun x hG hxl hk _ => ?_)
  subst hxl
  show zK x 1 0 [(0, .ref i), (1, .ref q)] [] dl σ 0 0
  refine z_cstr (pc := 0) hG w810 dJ5_inflateIfNeededFor_a7421_0 ?_
  refine z_if_eq (pc := 3) (tgt := 21) hG dJ5_inflateIfNeededFor_a7421_3 rfl (fun hbr => False.elim ((fun h => absurd h (by decide)) hbr)) (fun _ => ?_)
  refine z_aload_n (pc := 6) hG 0 rfl rfl dJ5_inflateIfNeededFor_a7421_6 ?_
  refine z_geti (pc := 7) hG zc_J4 inJ4 hi 1 rfl (by decide) rfl w820 dJ5_inflateIfNeededFor_a7421_7 ?_
  rw [show (σ.1 i 1) = (0 : Int32) from hc]
  refine z_aload_n (pc := 10) hG 1 rfl rfl dJ5_inflateIfNeededFor_a7421_10 ?_
  refine z_virtT (pc := 11) (A' := 0) (B' := 0) (st2 := [.int ((0 : Int32)), .int ((0 : Int32))]) (v := some (.int ((0 : Int32)))) hG [] [.int ((0 : Int32))] hq (c_codT hl0 hq) zy_J0_coder_7d493 ⟨w912, w913⟩ w924 dJ5_inflateIfNeededFor_a7421_11 rfl (Nat.le_of_ble_eq_true rfl) (Nat.le_refl _) (zand rfl rfl) (zand hoi (zand hoq rfl)) rfl rfl (Nat.le_of_ble_eq_true rfl) rfl rfl ?_
  refine z_icmp_eq (pc := 14) (tgt := 21) hG dJ5_inflateIfNeededFor_a7421_14 rfl (fun _ => ?_) (fun hbr => False.elim (hbr (rfl)))
  exact z_vret (pc := 21) hG rfl hk dJ5_inflateIfNeededFor_a7421_21
theorem dJ5_putStringAt_47b60_0 : decode cJ5_putStringAt_47b60 0 = .ok (.aload_n 0, 1) := by decide +kernel
theorem dJ5_putStringAt_47b60_1 : decode cJ5_putStringAt_47b60 1 = .ok (.aload_n 2, 1) := by decide +kernel
theorem dJ5_putStringAt_47b60_2 : decode cJ5_putStringAt_47b60 2 = .ok (.invokevirtual 397, 3) := by decide +kernel
theorem dJ5_putStringAt_47b60_5 : decode cJ5_putStringAt_47b60 5 = .ok (.aload_n 2, 1) := by decide +kernel
theorem dJ5_putStringAt_47b60_6 : decode cJ5_putStringAt_47b60 6 = .ok (.aload_n 0, 1) := by decide +kernel
theorem dJ5_putStringAt_47b60_7 : decode cJ5_putStringAt_47b60 7 = .ok (.getfield 15, 3) := by decide +kernel
theorem dJ5_putStringAt_47b60_10 : decode cJ5_putStringAt_47b60 10 = .ok (.iload_n 1, 1) := by decide +kernel
theorem dJ5_putStringAt_47b60_11 : decode cJ5_putStringAt_47b60 11 = .ok (.aload_n 0, 1) := by decide +kernel
theorem dJ5_putStringAt_47b60_12 : decode cJ5_putStringAt_47b60 12 = .ok (.getfield 22, 3) := by decide +kernel
theorem dJ5_putStringAt_47b60_15 : decode cJ5_putStringAt_47b60 15 = .ok (.invokevirtual 399, 3) := by decide +kernel
theorem dJ5_putStringAt_47b60_18 : decode cJ5_putStringAt_47b60 18 = .ok (.return_, 1) := by decide +kernel
theorem c_psaT {l : Launch} (hl0 : l.flags = flags0) {dl : List zDs} {σ : zS} {q : Nat} (hq : zsq2 q = true) {L : Nat} (hL : llen.getD (q - 1000) 0 = L) {i j n n0 : Nat} (hi : dl[i]? = some (zSB j)) (hi27 : i ≠ 27) (hc : σ.1 i 1 = 0) (hj : dl[j]? = some (.inr (5, n0))) (hj27 : j ≠ 27) (hn : n + L ≤ zLn σ j) (hm : zLn σ j < 2147483648) : zC l yJ5_putStringAt_47b60 cJ5_putStringAt_47b60 3 (Option.none : Option Jvm.ClassFile.FieldType) 2 0 0 [.ref i, .int (nI n), .ref q] dl σ (.inl none, dl, zir σ j (va_cpy (lbf q) (σ.1 j) (0 : Int32).toNatClampNeg (nI n).toNatClampNeg (nI L).toNatClampNeg)) := by
  have hoq : zoks dl.length (.ref q) = true := zoks_hi (by have := (zsq2_lo hq).1; omega)
  have hoj : zoks dl.length (.ref j) = true := zoks_of hj hj27
  have hoi : zoks dl.length (.ref i) = true := zoks_of hi hi27
  refine zC_of hl0 rfl (Nat.le_of_ble_eq_true rfl) (fun x hG hxl hk _ => ?_)
  subst hxl
  show zK x 2 0 [(0, .ref i), (1, .int ((nI n))), (2, .ref q)] [] dl σ 0 0
  refine z_aload_n (pc := 0) hG 0 rfl rfl dJ5_putStringAt_47b60_0 ?_
  refine z_aload_n (pc := 1) hG 2 rfl rfl dJ5_putStringAt_47b60_1 ?_
  refine z_virtS (pc := 2) (A' := 0) (B' := 0) (st2 := []) (v := none) hG [.ref q] [] zc_J4 hi (c_infT hl0 hq hi hi27 hc) zy_J5_inflateIfNeededFor_a7421 ⟨w922, wq_inf⟩ w920 dJ5_putStringAt_47b60_2 rfl (Nat.le_of_ble_eq_true rfl) (Nat.le_refl _) rfl (zand hoi (zand rfl (zand hoq rfl))) rfl rfl (Nat.le_of_ble_eq_true rfl) rfl rfl ?_
  refine z_aload_n (pc := 5) hG 2 rfl rfl dJ5_putStringAt_47b60_5 ?_
  refine z_aload_n (pc := 6) hG 0 rfl rfl dJ5_putStringAt_47b60_6 ?_
  refine z_getr (pc := 7) hG zc_J4 inJ4 hi 0 rfl (by decide) rfl w819 dJ5_putStringAt_47b60_7 ?_
  refine z_iload_n (pc := 10) hG 1 rfl rfl dJ5_putStringAt_47b60_10 ?_
  refine z_aload_n (pc := 11) hG 0 rfl rfl dJ5_putStringAt_47b60_11 ?_
  refine z_geti (pc := 12) hG zc_J4 inJ4 hi 1 rfl (by decide) rfl w820 dJ5_putStringAt_47b60_12 ?_
  rw [show (σ.1 i 1) = (0 : Int32) from hc]
  refine z_virtT (pc := 15) (A' := 0) (B' := 0) (st2 := []) (v := none) hG [.ref j, .int ((nI n)), .int ((0 : Int32))] [] hq (c_bytT hl0 hq hL hj hj27 hn hm) zy_J0_getBytes_840e7 ⟨w945, w946⟩ w944 dJ5_putStringAt_47b60_15 rfl (Nat.le_of_ble_eq_true rfl) (Nat.le_refl _) rfl (zand hoi (zand rfl (zand hoq rfl))) rfl rfl (Nat.le_of_ble_eq_true rfl) rfl rfl ?_
  exact z_vret (pc := 18) hG rfl hk dJ5_putStringAt_47b60_18
theorem dJ5_append_cf1ce_0 : decode cJ5_append_cf1ce 0 = .ok (.aload_n 1, 1) := by decide +kernel
theorem dJ5_append_cf1ce_1 : decode cJ5_append_cf1ce 1 = .ok (.ifnonnull 8, 3) := by decide +kernel
theorem dJ5_append_cf1ce_4 : decode cJ5_append_cf1ce 4 = .ok (.aload_n 0, 1) := by decide +kernel
theorem dJ5_append_cf1ce_5 : decode cJ5_append_cf1ce 5 = .ok (.invokevirtual 204, 3) := by decide +kernel
theorem dJ5_append_cf1ce_8 : decode cJ5_append_cf1ce 8 = .ok (.areturn, 1) := by decide +kernel
theorem dJ5_append_cf1ce_9 : decode cJ5_append_cf1ce 9 = .ok (.aload_n 1, 1) := by decide +kernel
theorem dJ5_append_cf1ce_10 : decode cJ5_append_cf1ce 10 = .ok (.invokevirtual 32, 3) := by decide +kernel
theorem dJ5_append_cf1ce_13 : decode cJ5_append_cf1ce 13 = .ok (.istore_n 2, 1) := by decide +kernel
theorem dJ5_append_cf1ce_14 : decode cJ5_append_cf1ce 14 = .ok (.aload_n 0, 1) := by decide +kernel
theorem dJ5_append_cf1ce_15 : decode cJ5_append_cf1ce 15 = .ok (.aload_n 0, 1) := by decide +kernel
theorem dJ5_append_cf1ce_16 : decode cJ5_append_cf1ce 16 = .ok (.getfield 79, 3) := by decide +kernel
theorem dJ5_append_cf1ce_19 : decode cJ5_append_cf1ce 19 = .ok (.iload_n 2, 1) := by decide +kernel
theorem dJ5_append_cf1ce_20 : decode cJ5_append_cf1ce 20 = .ok (.iadd, 1) := by decide +kernel
theorem dJ5_append_cf1ce_21 : decode cJ5_append_cf1ce 21 = .ok (.invokevirtual 100, 3) := by decide +kernel
theorem dJ5_append_cf1ce_24 : decode cJ5_append_cf1ce 24 = .ok (.aload_n 0, 1) := by decide +kernel
theorem dJ5_append_cf1ce_25 : decode cJ5_append_cf1ce 25 = .ok (.aload_n 0, 1) := by decide +kernel
theorem dJ5_append_cf1ce_26 : decode cJ5_append_cf1ce 26 = .ok (.getfield 79, 3) := by decide +kernel
theorem dJ5_append_cf1ce_29 : decode cJ5_append_cf1ce 29 = .ok (.aload_n 1, 1) := by decide +kernel
theorem dJ5_append_cf1ce_30 : decode cJ5_append_cf1ce 30 = .ok (.invokevirtual 208, 3) := by decide +kernel
theorem dJ5_append_cf1ce_33 : decode cJ5_append_cf1ce 33 = .ok (.aload_n 0, 1) := by decide +kernel
theorem dJ5_append_cf1ce_34 : decode cJ5_append_cf1ce 34 = .ok (.dup, 1) := by decide +kernel
theorem dJ5_append_cf1ce_35 : decode cJ5_append_cf1ce 35 = .ok (.getfield 79, 3) := by decide +kernel
theorem dJ5_append_cf1ce_38 : decode cJ5_append_cf1ce 38 = .ok (.iload_n 2, 1) := by decide +kernel
theorem dJ5_append_cf1ce_39 : decode cJ5_append_cf1ce 39 = .ok (.iadd, 1) := by decide +kernel
theorem dJ5_append_cf1ce_40 : decode cJ5_append_cf1ce 40 = .ok (.putfield 79, 3) := by decide +kernel
theorem dJ5_append_cf1ce_43 : decode cJ5_append_cf1ce 43 = .ok (.aload_n 0, 1) := by decide +kernel
theorem dJ5_append_cf1ce_44 : decode cJ5_append_cf1ce 44 = .ok (.areturn, 1) := by decide +kernel
theorem c_appT {l : Launch} (hl0 : l.flags = flags0) {dl : List zDs} {σ : zS} {i j n : Nat} {t : Nat → Nat} (hS : sbIn dl i j) (hA : sbA σ i j t n) {q : Nat} (hq : zsq2 q = true) {L : Nat} (hL : llen.getD (q - 1000) 0 = L) (hn : n + L ≤ 499) : ∃ σ', zCg l yJ5_append_cf1ce cJ5_append_cf1ce 3 (Option.some (Jvm.ClassFile.FieldType.object "java/lang/AbstractStringBuilder")) 3 1 1000 [.ref i, .ref q] dl σ (.inl (some (.ref i)), dl, σ') ∧ sbA σ' i j (sb_cat t n (ltx q)) (n + L) ∧ sbO dl.length i j σ σ' := by
  obtain ⟨n0, hj⟩ := hS.hj
  have hi := hS.hi
  have hoi : zoks dl.length (.ref i) = true := zoks_of hi hS.i27
  have hoj : zoks dl.length (.ref j) = true := zoks_of hj hS.j24.2.2
  have hok : zok dl.length (.ref i) = true := zok_of hi hS.mi
  have hij : i ≠ j := fun e => by rw [e, hj] at hi; cases hi
  have hjl := (List.getElem?_eq_some_iff.mp hj).1
  have hE := ens_A hS hA hn
  have hm : zLn (zens σ dl.length j (n + L)) j < 2147483648 := by have h9 : zLn (zens σ dl.length j (n + L)) j ≤ 1000 := hE.1.cap; show zLn (zens σ dl.length j (n + L)) j < 2147483648; omega
  have hoq : zoks dl.length (.ref q) = true := zoks_hi (by have := (zsq2_lo hq).1; omega)
  have hkq : zok dl.length (.ref q) = true := zok_hi (by have := (zsq2_lo hq).1; omega)
  refine ⟨zi (zir (zens σ dl.length j (n + L)) j (va_cpy (lbf q) ((zens σ dl.length j (n + L)).1 j) (0 : Int32).toNatClampNeg (nI n).toNatClampNeg (nI L).toNatClampNeg)) i 3 (nI (n + L)), ?_, ?_, ?_⟩
  · refine zCg_of hl0 rfl (Nat.le_of_ble_eq_true rfl) (fun x hG hxl hk hns hn0 => ?_)
    subst hxl
    show zK x 3 0 [(0, .ref i), (1, .ref q)] [] dl σ 1 1000
    refine z_aload_n (pc := 0) hG 1 rfl rfl dJ5_append_cf1ce_0 ?_
    refine z_nonnull (pc := 1) (tgt := 9) hG dJ5_append_cf1ce_1 rfl ?_
    refine z_aload_n (pc := 9) hG 1 rfl rfl dJ5_append_cf1ce_9 ?_
    refine z_virtT (pc := 10) (A' := 1) (B' := 1000) (st2 := [.int ((nI L))]) (v := some (.int ((nI L)))) hG [] [] hq (c_lenT hl0 hq hL) zy_J0_length_8abf5 ⟨w908, w909⟩ w907 dJ5_append_cf1ce_10 rfl (Nat.le_of_ble_eq_true rfl) (Nat.le_refl _) rfl (zand hoi (zand hoq rfl)) rfl rfl (Nat.le_of_ble_eq_true rfl) rfl rfl ?_
    refine z_istore_n (pc := 13) (ls' := [(2, .int ((nI L))), (0, .ref i), (1, .ref q)]) hG [0, 1, 2] rfl (by decide) rfl dJ5_append_cf1ce_13 ?_
    refine z_aload_n (pc := 14) hG 1 rfl rfl dJ5_append_cf1ce_14 ?_
    refine z_aload_n (pc := 15) hG 1 rfl rfl dJ5_append_cf1ce_15 ?_
    refine z_geti (pc := 16) hG zc_J4 inJ4 hi 3 rfl (by decide) rfl w822 dJ5_append_cf1ce_16 ?_
    rw [show (σ.1 i 3) = (nI n) from hA.cnt]
    refine z_iload_n (pc := 19) hG 0 rfl rfl dJ5_append_cf1ce_19 ?_
    refine z_iadd (pc := 20) hG dJ5_append_cf1ce_20 ?_
    rw [show ((nI n) + (nI L)) = (nI (n + L)) from nI_add n L]
    refine z_virtG (pc := 21) (A' := 0) (B' := 0) (st2 := []) (v := none) hG hns [.int ((nI (n + L)))] [] zc_J4 hi (c_ensure hl0 hS hA.c0 hA.cap hE.2.2.2 (zens_fit (Nat.ne_of_lt hjl) hA.fit)) zy_J5_ensureCapacityInternal_d00df ⟨w851, wq_ens⟩ w849 dJ5_append_cf1ce_21 rfl (Nat.le_of_ble_eq_true rfl) (Nat.le_refl _) rfl (zand rfl (zand hok (zand hkq rfl))) rfl rfl (Nat.le_of_ble_eq_true rfl) rfl rfl ?_
    refine z_aload_n (pc := 24) hG 1 rfl rfl dJ5_append_cf1ce_24 ?_
    refine z_aload_n (pc := 25) hG 1 rfl rfl dJ5_append_cf1ce_25 ?_
    refine z_geti (pc := 26) hG zc_J4 inJ4 hi 3 rfl (by decide) rfl w822 dJ5_append_cf1ce_26 ?_
    rw [show ((zens σ dl.length j (n + L)).1 i 3) = (nI n) from hE.1.cnt]
    refine z_aload_n (pc := 29) hG 2 rfl rfl dJ5_append_cf1ce_29 ?_
    refine z_virtS (pc := 30) (A' := 0) (B' := 0) (st2 := []) (v := none) hG [.int ((nI n)), .ref q] [] zc_J4 hi (c_psaT hl0 hq hL hi hS.i27 hE.1.c0 hj hS.j24.2.2 hE.2.1 hm) zy_J5_putStringAt_47b60 ⟨w918, wq_put⟩ w916 dJ5_append_cf1ce_30 rfl (Nat.le_of_ble_eq_true rfl) (Nat.le_refl _) rfl (zand rfl (zand hoi (zand hoq rfl))) rfl rfl (Nat.le_of_ble_eq_true rfl) rfl rfl ?_
    refine z_aload_n (pc := 33) hG 1 rfl rfl dJ5_append_cf1ce_33 ?_
    refine z_dup (pc := 34) hG rfl dJ5_append_cf1ce_34 ?_
    refine z_geti (pc := 35) hG zc_J4 inJ4 hi 3 rfl (by decide) rfl w822 dJ5_append_cf1ce_35 ?_
    rw [show ((zir (zens σ dl.length j (n + L)) j (va_cpy (lbf q) ((zens σ dl.length j (n + L)).1 j) (0 : Int32).toNatClampNeg (nI n).toNatClampNeg (nI L).toNatClampNeg)).1 i 3) = (nI n) from (congrFun (zir_n hij) 3).trans hE.1.cnt]
    refine z_iload_n (pc := 38) hG 0 rfl rfl dJ5_append_cf1ce_38 ?_
    refine z_iadd (pc := 39) hG dJ5_append_cf1ce_39 ?_
    rw [show ((nI n) + (nI L)) = (nI (n + L)) from nI_add n L]
    refine z_puti (pc := 40) hG zc_J4 inJ4 tyJ4 tyJ4_ok nmJ4 hi 3 rfl (by decide) rfl w822 rfl rfl rfl dJ5_append_cf1ce_40 ?_
    refine z_aload_n (pc := 43) hG 1 rfl rfl dJ5_append_cf1ce_43 ?_
    exact z_areto (pc := 44) hG rfl hk dJ5_append_cf1ce_44
  · have e1 : (zi (zir (zens σ dl.length j (n + L)) j (va_cpy (lbf q) ((zens σ dl.length j (n + L)).1 j) (0 : Int32).toNatClampNeg (nI n).toNatClampNeg (nI L).toNatClampNeg)) i 3 (nI (n + L))).1 i = upd ((zens σ dl.length j (n + L)).1 i) 3 (nI (n + L)) := zupd.trans (congrArg (fun z => upd z 3 (nI (n + L))) (zir_n hij))
    have e2 : (zi (zir (zens σ dl.length j (n + L)) j (va_cpy (lbf q) ((zens σ dl.length j (n + L)).1 j) (0 : Int32).toNatClampNeg (nI n).toNatClampNeg (nI L).toNatClampNeg)) i 3 (nI (n + L))).1 j = va_cpy (lbf q) ((zens σ dl.length j (n + L)).1 j) 0 n L := by
      rw [zi_o (fun z => hij z.symm), zir_s, nI_clamp (by omega), nI_clamp (by omega)]
      rfl
    refine ⟨by rw [e1]; exact hE.1.c0, by rw [e1]; rfl, hE.2.1, hE.1.cap, ?_, ?_⟩
    · rw [e2]
      refine sb_latPut hE.1.lat (fun a ha => pk_cpy_out (.inl ha)) (fun a ha => ?_)
      have e3 : va_cpy (lbf q) ((zens σ dl.length j (n + L)).1 j) 0 n L (n + a) = (lbf q) a := (pk_cpy_in (by omega) (by omega)).trans (congrArg _ (by omega))
      rw [e3]
      exact (lbf_ok hq hL).2.2 a ha
    · rw [e2]
      exact sb_fitC (lbf_fit hq) hE.1.fit
  · exact ⟨fun a ha hai haj => ⟨((zi_o hai).trans (zir_n haj)).trans (hE.2.2.1.1 a ha hai haj).1, (hE.2.2.1.1 a ha hai haj).2⟩, hE.2.2.1.2⟩
theorem c_codM {l : Launch} (hl0 : l.flags = flags0) {dl : List zDs} {σ : zS} {s b : Nat} (hM : zstM dl s b) (hsc : σ.1 s 1 = 0) : zC l yJ0_coder_7d493 cJ0_coder_7d493 1 (Option.some Jvm.ClassFile.FieldType.byte) 0 0 0 [.ref s] dl σ (.inl (some (.int 0)), dl, σ) := by
  obtain ⟨hs, ⟨n1, hb⟩, hs27, hb27, hms⟩ := id hM
  have hos : zoks dl.length (.ref s) = true := zoks_of hs hs27
  have hob : zoks dl.length (.ref b) = true := zoks_of hb hb27
  refine zC_of hl0 rfl (Nat.le_of_ble_eq_true rfl) (fun x hG hxl hk _ => ?_)
  subst hxl
  show zK x 0 0 [(0, .ref s)] [] dl σ 0 0
  refine z_cstr (pc := 0) hG w915 dJ0_coder_7d493_0 ?_
  refine z_if_eq (pc := 3) (tgt := 13) hG dJ0_coder_7d493_3 rfl (fun hbr => False.elim ((fun h => absurd h (by decide)) hbr)) (fun _ => ?_)
  refine z_aload_n (pc := 6) hG 0 rfl rfl dJ0_coder_7d493_6 ?_
  refine z_geti (pc := 7) hG zc_J0 inJ0 hs 1 rfl (by decide) rfl w1060 dJ0_coder_7d493_7 ?_
  rw [show (σ.1 s 1) = 0 from hsc]
  refine z_goto (pc := 10) (tgt := 14) hG dJ0_coder_7d493_10 rfl ?_
  exact z_iret (pc := 14) hG rfl rfl hk dJ0_coder_7d493_14
theorem c_lenM {l : Launch} (hl0 : l.flags = flags0) {dl : List zDs} {σ : zS} {s b : Nat} (hM : zstM dl s b) (hsc : σ.1 s 1 = 0) {L : Nat} (hL : zLn σ b = L) : zC l yJ0_length_8abf5 cJ0_length_8abf5 1 (Option.some Jvm.ClassFile.FieldType.int) 1 0 0 [.ref s] dl σ (.inl (some (.int (nI L))), dl, σ) := by
  obtain ⟨hs, ⟨n1, hb⟩, hs27, hb27, hms⟩ := id hM
  have hos : zoks dl.length (.ref s) = true := zoks_of hs hs27
  have hob : zoks dl.length (.ref b) = true := zoks_of hb hb27
  refine zC_of hl0 rfl (Nat.le_of_ble_eq_true rfl) (fun x hG hxl hk _ => ?_)
  subst hxl
  show zK x 1 0 [(0, .ref s)] [] dl σ 0 0
  refine z_aload_n (pc := 0) hG 0 rfl rfl dJ0_length_8abf5_0 ?_
  refine z_getr (pc := 1) hG zc_J0 inJ0 hs 0 rfl (by decide) rfl w1059 dJ0_length_8abf5_1 ?_
  refine z_alen5 (pc := 4) hG hb dJ0_length_8abf5_4 ?_
  rw [show (nI (zLn σ b)) = (nI L) from congrArg nI hL]
  refine z_aload_n (pc := 5) hG 0 rfl rfl dJ0_length_8abf5_5 ?_
  refine z_virtS (pc := 6) (A' := 0) (B' := 0) (st2 := [.int ((0 : Int32)), .int ((nI L))]) (v := some (.int ((0 : Int32)))) hG [] [.int ((nI L))] zc_J0 hs (c_codM hl0 hM hsc) zy_J0_coder_7d493 ⟨w912, w913⟩ w911 dJ0_length_8abf5_6 rfl (Nat.le_of_ble_eq_true rfl) (Nat.le_refl _) (zand rfl rfl) (zand hos rfl) rfl rfl (Nat.le_of_ble_eq_true rfl) rfl rfl ?_
  refine z_ishr (pc := 9) hG dJ0_length_8abf5_9 ?_
  rw [show ((nI L) >>> ((0 : Int32) &&& 31)) = (nI L) from sb_shr0 _]
  exact z_iret (pc := 10) hG rfl rfl hk dJ0_length_8abf5_10
theorem c_bytM {l : Launch} (hl0 : l.flags = flags0) {dl : List zDs} {σ : zS} {s b : Nat} (hM : zstM dl s b) (hsc : σ.1 s 1 = 0) {L : Nat} (hL : zLn σ b = L) (hfit : sb_Fit (σ.1 b)) {j n n0 : Nat} (hj : dl[j]? = some (.inr (5, n0))) (hj27 : j ≠ 27) (hn : n + L ≤ zLn σ j) (hm : zLn σ j < 2147483648) : zC l yJ0_getBytes_840e7 cJ0_getBytes_840e7 4 (Option.none : Option Jvm.ClassFile.FieldType) 1 0 0 [.ref s, .ref j, .int (nI n), .int 0] dl σ (.inl none, dl, zir σ j (va_cpy (σ.1 b) (σ.1 j) (0 : Int32).toNatClampNeg (nI n).toNatClampNeg (nI L).toNatClampNeg)) := by
  obtain ⟨hs, ⟨n1, hb⟩, hs27, hb27, hms⟩ := id hM
  have hos : zoks dl.length (.ref s) = true := zoks_of hs hs27
  have hob : zoks dl.length (.ref b) = true := zoks_of hb hb27
  have hoj : zoks dl.length (.ref j) = true := zoks_of hj hj27
  refine zC_of hl0 rfl (Nat.le_of_ble_eq_true rfl) (fun x hG hxl hk _ => ?_)
  subst hxl
  show zK x 1 0 [(0, .ref s), (1, .ref j), (2, .int ((nI n))), (3, .int ((0 : Int32)))] [] dl σ 0 0
  refine z_aload_n (pc := 0) hG 0 rfl rfl dJ0_getBytes_840e7_0 ?_
  refine z_virtS (pc := 1) (A' := 0) (B' := 0) (st2 := [.int ((0 : Int32))]) (v := some (.int ((0 : Int32)))) hG [] [] zc_J0 hs (c_codM hl0 hM hsc) zy_J0_coder_7d493 ⟨w912, w913⟩ w911 dJ0_getBytes_840e7_1 rfl (Nat.le_of_ble_eq_true rfl) (Nat.le_refl _) rfl (zand hos (zand hoj (zand rfl (zand rfl rfl)))) rfl rfl (Nat.le_of_ble_eq_true rfl) rfl rfl ?_
  refine z_iload_n (pc := 4) hG 3 rfl rfl dJ0_getBytes_840e7_4 ?_
  refine z_icmp_ne (pc := 5) (tgt := 28) hG dJ0_getBytes_840e7_5 rfl (fun hbr => False.elim ((fun h => h rfl) hbr)) (fun _ => ?_)
  refine z_aload_n (pc := 8) hG 0 rfl rfl dJ0_getBytes_840e7_8 ?_
  refine z_getr (pc := 9) hG zc_J0 inJ0 hs 0 rfl (by decide) rfl w1059 dJ0_getBytes_840e7_9 ?_
  refine z_iconst (pc := 12) (v := (0 : Int32)) hG (by decide) dJ0_getBytes_840e7_12 ?_
  refine z_aload_n (pc := 13) hG 1 rfl rfl dJ0_getBytes_840e7_13 ?_
  refine z_iload_n (pc := 14) hG 2 rfl rfl dJ0_getBytes_840e7_14 ?_
  refine z_iload_n (pc := 15) hG 3 rfl rfl dJ0_getBytes_840e7_15 ?_
  refine z_ishl (pc := 16) hG dJ0_getBytes_840e7_16 ?_
  rw [show ((nI n) <<< ((0 : Int32) &&& 31)) = (nI n) from sb_shl0 _]
  refine z_aload_n (pc := 17) hG 0 rfl rfl dJ0_getBytes_840e7_17 ?_
  refine z_getr (pc := 18) hG zc_J0 inJ0 hs 0 rfl (by decide) rfl w1059 dJ0_getBytes_840e7_18 ?_
  refine z_alen5 (pc := 21) hG hb dJ0_getBytes_840e7_21 ?_
  rw [show (nI (zLn σ b)) = (nI L) from congrArg nI hL]
  refine z_copyX (pc := 22) (m0 := L) (m1 := zLn σ j) hG hb hj (fun _ ca => by rw [← hL]; rfl) (fun _ _ => rfl) (fun _ _ => rfl) w948 w186 w185 w18 (Nat.le_of_ble_eq_true rfl) (cpo_ok hn hm) (fits_all hfit) dJ0_getBytes_840e7_22 ?_
  refine z_goto (pc := 25) (tgt := 43) hG dJ0_getBytes_840e7_25 rfl ?_
  exact z_vret (pc := 43) hG rfl hk dJ0_getBytes_840e7_43
theorem c_infM {l : Launch} (hl0 : l.flags = flags0) {dl : List zDs} {σ : zS} {s b : Nat} (hM : zstM dl s b) (hsc : σ.1 s 1 = 0) {i j : Nat} (hi : dl[i]? = some (zSB j)) (hi27 : i ≠ 27) (hc : σ.1 i 1 = 0) : zC l yJ5_inflateIfNeededFor_a7421 cJ5_inflateIfNeededFor_a7421 2 (Option.none : Option Jvm.ClassFile.FieldType) 1 0 0 [.ref i, .ref s] dl σ (.inl none, dl, σ) := by
  obtain ⟨hs, ⟨n1, hb⟩, hs27, hb27, hms⟩ := id hM
  have hos : zoks dl.length (.ref s) = true := zoks_of hs hs27
  have hob : zoks dl.length (.ref b) = true := zoks_of hb hb27
  have hoi : zoks dl.length (.ref i) = true := zoks_of hi hi27
  refine zC_of hl0 rfl (Nat.le_of_ble_eq_true rfl) (fun x hG hxl hk _ => ?_)
  subst hxl
  show zK x 1 0 [(0, .ref i), (1, .ref s)] [] dl σ 0 0
  refine z_cstr (pc := 0) hG w810 dJ5_inflateIfNeededFor_a7421_0 ?_
  refine z_if_eq (pc := 3) (tgt := 21) hG dJ5_inflateIfNeededFor_a7421_3 rfl (fun hbr => False.elim ((fun h => absurd h (by decide)) hbr)) (fun _ => ?_)
  refine z_aload_n (pc := 6) hG 0 rfl rfl dJ5_inflateIfNeededFor_a7421_6 ?_
  refine z_geti (pc := 7) hG zc_J4 inJ4 hi 1 rfl (by decide) rfl w820 dJ5_inflateIfNeededFor_a7421_7 ?_
  rw [show (σ.1 i 1) = (0 : Int32) from hc]
  refine z_aload_n (pc := 10) hG 1 rfl rfl dJ5_inflateIfNeededFor_a7421_10 ?_
  refine z_virtS (pc := 11) (A' := 0) (B' := 0) (st2 := [.int ((0 : Int32)), .int ((0 : Int32))]) (v := some (.int ((0 : Int32)))) hG [] [.int ((0 : Int32))] zc_J0 hs (c_codM hl0 hM hsc) zy_J0_coder_7d493 ⟨w912, w913⟩ w924 dJ5_inflateIfNeededFor_a7421_11 rfl (Nat.le_of_ble_eq_true rfl) (Nat.le_refl _) (zand rfl rfl) (zand hoi (zand hos rfl)) rfl rfl (Nat.le_of_ble_eq_true rfl) rfl rfl ?_
  refine z_icmp_eq (pc := 14) (tgt := 21) hG dJ5_inflateIfNeededFor_a7421_14 rfl (fun _ => ?_) (fun hbr => False.elim (hbr (rfl)))
  exact z_vret (pc := 21) hG rfl hk dJ5_inflateIfNeededFor_a7421_21
theorem c_psaM {l : Launch} (hl0 : l.flags = flags0) {dl : List zDs} {σ : zS} {s b : Nat} (hM : zstM dl s b) (hsc : σ.1 s 1 = 0) {L : Nat} (hL : zLn σ b = L) (hfit : sb_Fit (σ.1 b)) {i j n n0 : Nat} (hi : dl[i]? = some (zSB j)) (hi27 : i ≠ 27) (hc : σ.1 i 1 = 0) (hj : dl[j]? = some (.inr (5, n0))) (hj27 : j ≠ 27) (hn : n + L ≤ zLn σ j) (hm : zLn σ j < 2147483648) : zC l yJ5_putStringAt_47b60 cJ5_putStringAt_47b60 3 (Option.none : Option Jvm.ClassFile.FieldType) 2 0 0 [.ref i, .int (nI n), .ref s] dl σ (.inl none, dl, zir σ j (va_cpy (σ.1 b) (σ.1 j) (0 : Int32).toNatClampNeg (nI n).toNatClampNeg (nI L).toNatClampNeg)) := by
  obtain ⟨hs, ⟨n1, hb⟩, hs27, hb27, hms⟩ := id hM
  have hos : zoks dl.length (.ref s) = true := zoks_of hs hs27
  have hob : zoks dl.length (.ref b) = true := zoks_of hb hb27
  have hoj : zoks dl.length (.ref j) = true := zoks_of hj hj27
  have hoi : zoks dl.length (.ref i) = true := zoks_of hi hi27
  refine zC_of hl0 rfl (Nat.le_of_ble_eq_true rfl) (fun x hG hxl hk _ => ?_)
  subst hxl
  show zK x 2 0 [(0, .ref i), (1, .int ((nI n))), (2, .ref s)] [] dl σ 0 0
  refine z_aload_n (pc := 0) hG 0 rfl rfl dJ5_putStringAt_47b60_0 ?_
  refine z_aload_n (pc := 1) hG 2 rfl rfl dJ5_putStringAt_47b60_1 ?_
  refine z_virtS (pc := 2) (A' := 0) (B' := 0) (st2 := []) (v := none) hG [.ref s] [] zc_J4 hi (c_infM hl0 hM hsc hi hi27 hc) zy_J5_inflateIfNeededFor_a7421 ⟨w922, wq_inf⟩ w920 dJ5_putStringAt_47b60_2 rfl (Nat.le_of_ble_eq_true rfl) (Nat.le_refl _) rfl (zand hoi (zand rfl (zand hos rfl))) rfl rfl (Nat.le_of_ble_eq_true rfl) rfl rfl ?_
  refine z_aload_n (pc := 5) hG 2 rfl rfl dJ5_putStringAt_47b60_5 ?_
  refine z_aload_n (pc := 6) hG 0 rfl rfl dJ5_putStringAt_47b60_6 ?_
  refine z_getr (pc := 7) hG zc_J4 inJ4 hi 0 rfl (by decide) rfl w819 dJ5_putStringAt_47b60_7 ?_
  refine z_iload_n (pc := 10) hG 1 rfl rfl dJ5_putStringAt_47b60_10 ?_
  refine z_aload_n (pc := 11) hG 0 rfl rfl dJ5_putStringAt_47b60_11 ?_
  refine z_geti (pc := 12) hG zc_J4 inJ4 hi 1 rfl (by decide) rfl w820 dJ5_putStringAt_47b60_12 ?_
  rw [show (σ.1 i 1) = (0 : Int32) from hc]
  refine z_virtS (pc := 15) (A' := 0) (B' := 0) (st2 := []) (v := none) hG [.ref j, .int ((nI n)), .int ((0 : Int32))] [] zc_J0 hs (c_bytM hl0 hM hsc hL hfit hj hj27 hn hm) zy_J0_getBytes_840e7 ⟨w945, w946⟩ w944 dJ5_putStringAt_47b60_15 rfl (Nat.le_of_ble_eq_true rfl) (Nat.le_refl _) rfl (zand hoi (zand rfl (zand hos rfl))) rfl rfl (Nat.le_of_ble_eq_true rfl) rfl rfl ?_
  exact z_vret (pc := 18) hG rfl hk dJ5_putStringAt_47b60_18
theorem c_appM {l : Launch} (hl0 : l.flags = flags0) {dl : List zDs} {σ : zS} {i j n : Nat} {t : Nat → Nat} (hS : sbIn dl i j) (hA : sbA σ i j t n) {s b : Nat} (hM : zstM dl s b) {L : Nat} {u : Nat → Nat} (hU : zstA σ s b u L) (hbj : b ≠ j) (hn : n + L ≤ 499) : ∃ σ', zCg l yJ5_append_cf1ce cJ5_append_cf1ce 3 (Option.some (Jvm.ClassFile.FieldType.object "java/lang/AbstractStringBuilder")) 3 1 1000 [.ref i, .ref s] dl σ (.inl (some (.ref i)), dl, σ') ∧ sbA σ' i j (sb_cat t n u) (n + L) ∧ sbO dl.length i j σ σ' := by
  obtain ⟨n0, hj⟩ := hS.hj
  have hi := hS.hi
  have hoi : zoks dl.length (.ref i) = true := zoks_of hi hS.i27
  have hoj : zoks dl.length (.ref j) = true := zoks_of hj hS.j24.2.2
  have hok : zok dl.length (.ref i) = true := zok_of hi hS.mi
  have hij : i ≠ j := fun e => by rw [e, hj] at hi; cases hi
  have hjl := (List.getElem?_eq_some_iff.mp hj).1
  have hE := ens_A hS hA hn
  have hm : zLn (zens σ dl.length j (n + L)) j < 2147483648 := by have h9 : zLn (zens σ dl.length j (n + L)) j ≤ 1000 := hE.1.cap; show zLn (zens σ dl.length j (n + L)) j < 2147483648; omega
  have hM := hM
  obtain ⟨hs, ⟨n1, hb⟩, hs27, hb27, hms⟩ := id hM
  have hos : zoks dl.length (.ref s) = true := zoks_of hs hs27
  have hob : zoks dl.length (.ref b) = true := zoks_of hb hb27
  have hks : zok dl.length (.ref s) = true := zok_of hs hms
  have hsi : s ≠ i := fun e => by rw [e, hi] at hs; cases hs
  have hsj : s ≠ j := fun e => by rw [e, hj] at hs; cases hs
  have hbi : b ≠ i := fun e => by rw [e, hi] at hb; cases hb
  have hsl := (List.getElem?_eq_some_iff.mp hs).1
  have hbl := (List.getElem?_eq_some_iff.mp hb).1
  have hE1 : (zens σ dl.length j (n + L)).1 s 1 = 0 := by rw [(hE.2.2.1.1 s hsl hsi hsj).1]; exact hU.1
  have hEb := hE.2.2.1.1 b hbl hbi hbj
  have hE2 : zLn (zens σ dl.length j (n + L)) b = L := by show ((zens σ dl.length j (n + L)).2.1 b 0).toNatClampNeg = L; rw [hEb.2]; exact hU.2.1
  have hE3 : sb_Fit ((zens σ dl.length j (n + L)).1 b) := by rw [hEb.1]; exact hU.2.2.2.2
  refine ⟨zi (zir (zens σ dl.length j (n + L)) j (va_cpy ((zens σ dl.length j (n + L)).1 b) ((zens σ dl.length j (n + L)).1 j) (0 : Int32).toNatClampNeg (nI n).toNatClampNeg (nI L).toNatClampNeg)) i 3 (nI (n + L)), ?_, ?_, ?_⟩
  · refine zCg_of hl0 rfl (Nat.le_of_ble_eq_true rfl) (fun x hG hxl hk hns hn0 => ?_)
    subst hxl
    show zK x 3 0 [(0, .ref i), (1, .ref s)] [] dl σ 1 1000
    refine z_aload_n (pc := 0) hG 1 rfl rfl dJ5_append_cf1ce_0 ?_
    refine z_nonnull (pc := 1) (tgt := 9) hG dJ5_append_cf1ce_1 rfl ?_
    refine z_aload_n (pc := 9) hG 1 rfl rfl dJ5_append_cf1ce_9 ?_
    refine z_virtS (pc := 10) (A' := 1) (B' := 1000) (st2 := [.int ((nI L))]) (v := some (.int ((nI L)))) hG [] [] zc_J0 hs (c_lenM hl0 hM hU.1 hU.2.1) zy_J0_length_8abf5 ⟨w908, w909⟩ w907 dJ5_append_cf1ce_10 rfl (Nat.le_of_ble_eq_true rfl) (Nat.le_refl _) rfl (zand hoi (zand hos rfl)) rfl rfl (Nat.le_of_ble_eq_true rfl) rfl rfl ?_
    refine z_istore_n (pc := 13) (ls' := [(2, .int ((nI L))), (0, .ref i), (1, .ref s)]) hG [0, 1, 2] rfl (by decide) rfl dJ5_append_cf1ce_13 ?_
    refine z_aload_n (pc := 14) hG 1 rfl rfl dJ5_append_cf1ce_14 ?_
    refine z_aload_n (pc := 15) hG 1 rfl rfl dJ5_append_cf1ce_15 ?_
    refine z_geti (pc := 16) hG zc_J4 inJ4 hi 3 rfl (by decide) rfl w822 dJ5_append_cf1ce_16 ?_
    rw [show (σ.1 i 3) = (nI n) from hA.cnt]
    refine z_iload_n (pc := 19) hG 0 rfl rfl dJ5_append_cf1ce_19 ?_
    refine z_iadd (pc := 20) hG dJ5_append_cf1ce_20 ?_
    rw [show ((nI n) + (nI L)) = (nI (n + L)) from nI_add n L]
    refine z_virtG (pc := 21) (A' := 0) (B' := 0) (st2 := []) (v := none) hG hns [.int ((nI (n + L)))] [] zc_J4 hi (c_ensure hl0 hS hA.c0 hA.cap hE.2.2.2 (zens_fit (Nat.ne_of_lt hjl) hA.fit)) zy_J5_ensureCapacityInternal_d00df ⟨w851, wq_ens⟩ w849 dJ5_append_cf1ce_21 rfl (Nat.le_of_ble_eq_true rfl) (Nat.le_refl _) rfl (zand rfl (zand hok (zand hks rfl))) rfl rfl (Nat.le_of_ble_eq_true rfl) rfl rfl ?_
    refine z_aload_n (pc := 24) hG 1 rfl rfl dJ5_append_cf1ce_24 ?_
    refine z_aload_n (pc := 25) hG 1 rfl rfl dJ5_append_cf1ce_25 ?_
    refine z_geti (pc := 26) hG zc_J4 inJ4 hi 3 rfl (by decide) rfl w822 dJ5_append_cf1ce_26 ?_
    rw [show ((zens σ dl.length j (n + L)).1 i 3) = (nI n) from hE.1.cnt]
    refine z_aload_n (pc := 29) hG 2 rfl rfl dJ5_append_cf1ce_29 ?_
    refine z_virtS (pc := 30) (A' := 0) (B' := 0) (st2 := []) (v := none) hG [.int ((nI n)), .ref s] [] zc_J4 hi (c_psaM hl0 hM hE1 hE2 hE3 hi hS.i27 hE.1.c0 hj hS.j24.2.2 hE.2.1 hm) zy_J5_putStringAt_47b60 ⟨w918, wq_put⟩ w916 dJ5_append_cf1ce_30 rfl (Nat.le_of_ble_eq_true rfl) (Nat.le_refl _) rfl (zand rfl (zand hoi (zand hos rfl))) rfl rfl (Nat.le_of_ble_eq_true rfl) rfl rfl ?_
    refine z_aload_n (pc := 33) hG 1 rfl rfl dJ5_append_cf1ce_33 ?_
    refine z_dup (pc := 34) hG rfl dJ5_append_cf1ce_34 ?_
    refine z_geti (pc := 35) hG zc_J4 inJ4 hi 3 rfl (by decide) rfl w822 dJ5_append_cf1ce_35 ?_
    rw [show ((zir (zens σ dl.length j (n + L)) j (va_cpy ((zens σ dl.length j (n + L)).1 b) ((zens σ dl.length j (n + L)).1 j) (0 : Int32).toNatClampNeg (nI n).toNatClampNeg (nI L).toNatClampNeg)).1 i 3) = (nI n) from (congrFun (zir_n hij) 3).trans hE.1.cnt]
    refine z_iload_n (pc := 38) hG 0 rfl rfl dJ5_append_cf1ce_38 ?_
    refine z_iadd (pc := 39) hG dJ5_append_cf1ce_39 ?_
    rw [show ((nI n) + (nI L)) = (nI (n + L)) from nI_add n L]
    refine z_puti (pc := 40) hG zc_J4 inJ4 tyJ4 tyJ4_ok nmJ4 hi 3 rfl (by decide) rfl w822 rfl rfl rfl dJ5_append_cf1ce_40 ?_
    refine z_aload_n (pc := 43) hG 1 rfl rfl dJ5_append_cf1ce_43 ?_
    exact z_areto (pc := 44) hG rfl hk dJ5_append_cf1ce_44
  · have e1 : (zi (zir (zens σ dl.length j (n + L)) j (va_cpy ((zens σ dl.length j (n + L)).1 b) ((zens σ dl.length j (n + L)).1 j) (0 : Int32).toNatClampNeg (nI n).toNatClampNeg (nI L).toNatClampNeg)) i 3 (nI (n + L))).1 i = upd ((zens σ dl.length j (n + L)).1 i) 3 (nI (n + L)) := zupd.trans (congrArg (fun z => upd z 3 (nI (n + L))) (zir_n hij))
    have e2 : (zi (zir (zens σ dl.length j (n + L)) j (va_cpy ((zens σ dl.length j (n + L)).1 b) ((zens σ dl.length j (n + L)).1 j) (0 : Int32).toNatClampNeg (nI n).toNatClampNeg (nI L).toNatClampNeg)) i 3 (nI (n + L))).1 j = va_cpy ((zens σ dl.length j (n + L)).1 b) ((zens σ dl.length j (n + L)).1 j) 0 n L := by
      rw [zi_o (fun z => hij z.symm), zir_s, nI_clamp (by omega), nI_clamp (by omega)]
      rfl
    refine ⟨by rw [e1]; exact hE.1.c0, by rw [e1]; rfl, hE.2.1, hE.1.cap, ?_, ?_⟩
    · rw [e2]
      refine sb_latPut hE.1.lat (fun a ha => pk_cpy_out (.inl ha)) (fun a ha => ?_)
      have e3 : va_cpy ((zens σ dl.length j (n + L)).1 b) ((zens σ dl.length j (n + L)).1 j) 0 n L (n + a) = ((zens σ dl.length j (n + L)).1 b) a := (pk_cpy_in (by omega) (by omega)).trans (congrArg _ (by omega))
      rw [e3]
      rw [hEb.1]; exact hU.2.2.2.1 a ha
    · rw [e2]
      exact sb_fitC hE3 hE.1.fit
  · exact ⟨fun a ha hai haj => ⟨((zi_o hai).trans (zir_n haj)).trans (hE.2.2.1.1 a ha hai haj).1, (hE.2.2.1.1 a ha hai haj).2⟩, hE.2.2.1.2⟩
