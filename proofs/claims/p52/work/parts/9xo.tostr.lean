/-! ===== toString ===== -/
/-- the states agree on all cells but N -/
def zAg (N : Nat) (σ σ' : zS) : Prop := (∀ a, a ≠ N → σ'.1 a = σ.1 a ∧ σ'.2.1 a = σ.2.1 a) ∧ σ'.2.2 = σ.2.2
theorem zws_ag {ad : Nat → Nat} {ca : Nat → ClassId} {dl : List zDs} {σ σ' : zS} {N : Nat} (h : zAg N σ σ') (hN : dl.length ≤ N) : zws ad ca dl σ' = zws ad ca dl σ := by
  apply List.ext_getElem?
  intro j
  simp only [zws, List.getElem?_mapIdx]
  cases hj : dl[j]? with
  | none => rfl
  | some d =>
    have hjl := (List.getElem?_eq_some_iff.mp hj).1
    have h1 := h.1 j (by omega)
    show some (ad j, zcell ad ca σ' j d) = some (ad j, zcell ad ca σ j d)
    rw [zcell_ne (σ := σ) (σ' := σ') h1.1 h1.2 h.2]
/-- a cell that is not there yet: zeros, and a length -/
def zini (σ : zS) (i L : Nat) : zS := (fun a => if a = i then fun _ => 0 else σ.1 a, fun a b => if a = i ∧ b = 0 then Int64.ofNat L else σ.2.1 a b, σ.2.2)
theorem zini_s {σ : zS} {i L : Nat} : (zini σ i L).1 i = fun _ => 0 := if_pos rfl
theorem zini_ag {σ : zS} {i L : Nat} : zAg i σ (zini σ i L) := ⟨fun a ha => ⟨if_neg ha, funext fun b => if_neg (fun z => ha z.1)⟩, rfl⟩
theorem zini_L {σ : zS} {i L : Nat} (h : L < 2147483648) : zLn (zini σ i L) i = L := by
  show ((zini σ i L).2.1 i 0).toNatClampNeg = L
  rw [show (zini σ i L).2.1 i 0 = Int64.ofNat L from if_pos ⟨rfl, rfl⟩]
  exact Int64.toNatClampNeg_ofNat_of_lt (by omega)
theorem z_ini {x : zXx} {F pc : Nat} {ls : List (Nat × Value)} {st : List Value} {dl : List zDs} {σ : zS} {A B : Nat} (i L : Nat) (hi : dl.length ≤ i) (k : zK x F pc ls st dl (zini σ i L) A B) : zK x F pc ls st dl σ A B := by
  obtain ⟨p, l, e, R, s, m, args, below, meth, c, D, ca, b0, ad0, n0, tg⟩ := x
  intro ad H locs la cells slots h1 h2 h3 h4 h5 h6 h7 h8 h9 h10
  have hz : zws ad ca dl (zini σ i L) = zws ad ca dl σ := zws_ag zini_ag hi
  exact k ad H locs la cells slots h1 h2 (by rw [hz]; exact h3) (by rw [hz]; exact h4) h5 h6 h7 h8 h9 h10
/-- a row of bytes copied whole -/
def zcln (σ : zS) (N i : Nat) : zS := (fun a => if a = N then σ.1 i else σ.1 a, fun a b => if a = N ∧ b = 0 then Int64.ofNat (zLn σ i) else σ.2.1 a b, σ.2.2)
theorem zcln_s {σ : zS} {N i : Nat} : (zcln σ N i).1 N = σ.1 i := if_pos rfl
theorem zcln_ag {σ : zS} {N i : Nat} : zAg N σ (zcln σ N i) := ⟨fun a ha => ⟨if_neg ha, funext fun b => if_neg (fun z => ha z.1)⟩, rfl⟩
theorem zcln_L {σ : zS} {N i : Nat} (h : zLn σ i < 2147483648) : zLn (zcln σ N i) N = zLn σ i := by
  show ((zcln σ N i).2.1 N 0).toNatClampNeg = zLn σ i
  rw [show (zcln σ N i).2.1 N 0 = Int64.ofNat (zLn σ i) from if_pos ⟨rfl, rfl⟩]
  exact Int64.toNatClampNeg_ofNat_of_lt (by show zLn σ i < _; omega)
theorem wv_872 : Cond.sameMethod "[B" "java/lang/Object" "clone" "()Ljava/lang/Object;" ∈ zT := zT_k4 152 rfl rfl
section ZTS
variable {x : zXx} {cc bytes : ByteArray} {nL maxL : Nat} {own : String} {ret ret' : Option FieldType} {F fr pc : Nat} {ls : List (Nat × Value)} {st rest st2 : List Value} {dl dl' : List zDs} {σ σ' : zS} {A B A' B' nc ns n index : Nat} {y z : MethodName} {v : Option Value}
theorem z_clone5 {i n0 N : Nat} (hG : zG x cc nL own ret) (hi : dl[i]? = some (.inr (5, n0))) (hN : dl.length = N) (hN9 : N < 900) (hr : dl.all (zrokb N) = true) (hm : zLn σ i < 2147483648) (hfit : sb_Fit (σ.1 i)) (hlink : Cond.methodLink own index ⟨"[B", "clone", "()Ljava/lang/Object;"⟩ ∈ zT) (hst : st.all (zokn N) = true) (hls : ls.all (fun q => zokn N q.2) = true) (hW : (st.map fun v => v.category).sum ≤ 8) (hA : A = A' + 1) (hB : B = B' + zLn σ i) (hd : decode cc pc = .ok (.invokevirtual index, 3))
    (kk : zK x F (pc + 3) ls (.ref N :: st) (dl ++ [.inr (5, 0)]) (zcln σ N i) A' B') : zK x F pc ls (.ref i :: st) dl σ A B := by
  obtain ⟨p, l, e, R, s, m, args, below, meth, c, D, ca, b0, ad0, n0, tg⟩ := x
  obtain ⟨hx, hb, hml, hown, hts, hret, hlk, htab, hKs, hOs, hfl⟩ := hG
  intro ad H locs la cells slots h1 h2 h3 h4 h5 h6 h7 h8 h9 h10
  have hsum : ((st.map (zr ad)).map fun v => v.category).sum ≤ 8 := by
    rw [List.map_map]
    exact Nat.le_trans (Nat.le_of_eq (congrArg List.sum (List.map_congr_left fun v _ => zr_cat ad v))) hW
  refine va_clone (ad := "[B") hx hb h6.1.symm hown (hts _ hlink) (hts _ wv_872) (hts _ w176) (hts _ w177) (hts _ w873) (hOs.1.2.2.2.2.2.2.2.2.1.2.2.1) hKs h3 h4 h5 (fun q hq => hOs.1.1 q hq) i 1 (zws_at hi) (ty := .byte) rfl (va_nm_byte (hKs.2 1 (ca 1, .byte) rfl).2) (va_fit (F := fun k => .int (σ.1 i k)) (fun k _ => hfit k)) (by omega) (by omega) (by omega) (by show slots + zLn σ i ≤ R.slots; omega) hd (fun q H1 _ g1 g2 g3 => ?_)
  have ez : zws (zput ad N q) ca (dl ++ [.inr (5, 0)]) (zcln σ N i) = zws ad ca dl σ ++ [(q, .inl (ca 1, zLn σ i, .inl (σ.1 i)))] := by
    rw [zws_push hN hr, zws_ag zcln_ag (Nat.le_of_eq hN)]
    show _ ++ [(q, (.inl (ca 1, zLn (zcln σ N i) N, .inl ((zcln σ N i).1 N)) : va_E))] = _
    rw [zcln_L hm, zcln_s]
  rw [← ez] at g1 g2
  have hn : (dl ++ [(.inr (5, 0) : zDs)]).length = dl.length + 1 := by simp
  have k2 := kk (zput ad N q) H1 locs la (cells + 1) (slots + zLn σ i) (zad_put h1 (by omega) hN9) (by rw [hn]; omega) g1 g2 g3 (by rw [zokn_ls hls]; exact h6) (by omega) (by omega) h9 h10
  rw [List.map_cons, zokn_st hst] at k2
  have e2 : zr (zput ad N q) (.ref N) = .ref q := congrArg Value.ref zput_i
  rw [e2] at k2
  exact k2
theorem z_cast5 {i n0 : Nat} (hG : zG x cc nL own ret) (hi : dl[i]? = some (.inr (5, n0))) (hlink : Cond.classLink own index "[B" ∈ zT) (hd : decode cc pc = .ok (.checkcast index, 3)) (kk : zK x F (pc + 3) ls (.ref i :: st) dl σ A B) : zK x F pc ls (.ref i :: st) dl σ A B := by
  obtain ⟨p, l, e, R, s, m, args, below, meth, c, D, ca, b0, ad0, n0, tg⟩ := x
  obtain ⟨hx, hb, hml, hown, hts, hret, hlk, htab, hKs, hOs, hfl⟩ := hG
  intro ad H locs la cells slots h1 h2 h3 h4 h5 h6 h7 h8 h9 h10
  exact va_castA hx hb hown (hts _ hlink) h3 i (zws_at hi) (va_nm_byte (hKs.2 1 (ca 1, .byte) rfl).2) hd (kk ad H locs la cells slots h1 h2 h3 h4 h5 h6 h7 h8 h9 h10)
/-- a number put into a final field, in its constructor -/
theorem z_putiF {C ref : String} {T : u_T} {N ci i : Nat} {fl : List (Nat × Nat)} {z : Nat} {v : Int32} (hG : zG x cc nL own ret) (hnam : x.2.2.2.2.2.2.2.2.1.name = "<init>") (hc : zcls[ci]? = some (C, T, N)) (hin : ∀ w ∈ u_ws C T N, w ∈ zT) (ty0 : Nat → FieldType) (hty : ∀ k, k < N → parseFieldDescriptor (T k).2.2.1 = some (ty0 k)) (hnm : ∀ a, a < N → ∀ b, b < N → a ≠ b → (T a).2.1 ≠ (T b).2.1) (hi : dl[i]? = some (.inl (ci, fl))) (k : Nat) (hf : fl[k]? = some (0, z)) (hk : k < N) (hr : (T k).1 = ref) (hlink : Cond.fieldLink own index ref (T k).2.1 (T k).2.2.1 ∈ zT) (hfin : (T k).2.2.2 = true) (hdec : (T k).1 = own) (hn : narrow (ty0 k) (.int v) = .int v) (hfit : fits (ty0 k) (.int v) = true) (hd : decode cc pc = .ok (.putfield index, 3))
    (kk : zK x F (pc + 3) ls st dl (zi σ i k v) A B) : zK x F pc ls (.int v :: .ref i :: st) dl σ A B := by
  obtain ⟨p, l, e, R, s, m, args, below, meth, c, D, ca, b0, ad0, n0, tg⟩ := x
  obtain ⟨hx, hb, hml, hown, hts, hret, hlk, htab, hKs, hOs, hfl⟩ := hG
  intro ad H locs la cells slots h1 h2 h3 h4 h5 h6 h7 h8 h9 h10
  refine va_putF (D := D) (ci := ci) (v := .int v) (ty := ty0 k) (C := C) (T := T) (N := N) hx hb hts hin ty0 hty hnm hown hKs h3 h4 h5 i (zws_at hi) hc k hk (hts _ hlink) (fun _ h9 => by rw [← hr]; exact h9) hfin hnam hdec (hty k hk) hn hfit (by rw [List.length_mapIdx]; exact (List.getElem?_eq_some_iff.mp hf).1) hd (fun H1 locs1 g1 g2 g3 => ?_)
  rw [zws_set (σ := σ) (σ' := zi σ i k v) hi (zcell_zi hf) (fun j hj => by funext q; exact if_neg (fun z => hj z.1)) (fun _ _ => rfl) rfl] at g1 g2
  exact kk ad H1 locs1 la cells slots h1 h2 g1 g2 g3 h6 h7 h8 h9 h10
/-- a method is called by the name of the one that it overrides -/
theorem z_virtO {ci i N m0 : Nat} {C owner : String} {T : u_T} {fl : List (Nat × Nat)} {y0 : MethodName} {bb0 : ByteArray} {r0 : Option FieldType} (hG : zG x cc nL own ret) (As rest : List Value) (hc : zcls[ci]? = some (C, T, N)) (hi : dl[i]? = some (.inl (ci, fl))) (hC : zC (zl0 x) y bytes maxL ret' fr nc ns (.ref i :: As) dl σ (.inl v, dl', σ')) (hy : zY y bytes maxL ret' n) (hs : Cond.instanceMethod y ∈ zT ∧ Cond.sameMethod y0.cls owner y0.name y0.desc ∈ zT ∧ Cond.instanceMethod ⟨owner, y0.name, y0.desc⟩ ∈ zT ∧ Cond.selects C y0 y ∈ zT ∧ Cond.code ⟨owner, y0.name, y0.desc⟩ bb0 m0 r0 ∈ zT) (ho : owner ≠ "java/lang/invoke/MethodHandle" ∧ owner ≠ "java/lang/invoke/VarHandle") (hpar : (parseMethodDescriptor y0.desc).map (fun d => d.parameters.length) = some n) (hl : Cond.methodLink own index y0 ∈ zT) (hd : decode cc pc = .ok (.invokevirtual index, 3)) (hn : As.length = n) (hF : fr + 1 ≤ F)
    (hle : dl.length ≤ dl'.length) (hst : rest.all (zoks dl.length) = true) (hls : ls.all (fun q => zoks dl.length q.2) = true) (hA : A = A' + nc) (hB : B = B' + ns) (hW : (rest.map fun v => v.category).sum ≤ 8) (hstk : st = As.reverse ++ .ref i :: rest) (h2 : v.toList ++ rest = st2)
    (kk : zK x F (pc + 3) ls st2 dl' σ' A' B') : zK x F pc ls st dl σ A B := by
  subst hstk
  subst h2
  refine z_afterS hG hle hst hls hA hB kk ?_
  obtain ⟨p, l, e, R, s, m, args, below, meth, c, D, ca, b0, ad0, n0, tg⟩ := x
  obtain ⟨hx, hb, hml, hown, hts, hret, hlk, htab, hKs, hOs, hfl⟩ := hG
  obtain ⟨y1, y2, y3, y4, y5⟩ := hy
  intro ad H locs la cells slots h1 h3 h4 h5 h7 h8 h6 h9 h10
  have hT : ∀ w ∈ Cond.code y bytes maxL ret' :: zT, ∀ (a' : Array Value) (U : State), s.WarmedH U.vm → w.before a' U = true := pay_in hts (fun w h => by
    rcases List.mem_cons.mp h with rfl | h
    · exact ⟨y1, zT_good y1⟩
    · exact ⟨h, zT_good h⟩)
  exact ⟨_, vx_ofRun (va_runU (C := C) (owner := owner) (As := As.map (zr ad)) ⟨hx, hb, rfl, hown, hts⟩ (vx_toMet (hC D (zcs ca) b0 ad) (fun E st t h => by obtain ⟨⟨ad', h1, -⟩, -⟩ := h; cases h1)) ⟨⟨rfl, rfl, by show 2 * fr + 20 + 1 ≤ R.frames; omega, by show 8 + (maxL + 11) + (50 * fr + 200) ≤ R.locals; omega, hT, List.mem_cons_self⟩, hts _ y1, hts _ y2, ho, fun sig h => by rw [h] at hpar; exact (Option.some.inj hpar).symm, hts _ hl, hts _ hs.2.1, va_Decl.of (hts _ hs.2.2.1) (hts _ hs.2.2.2.2), hts _ hs.2.2.2.1, hts _ hs.1⟩ ⟨zC_blind, va_recv hKs h3 hc (zws_at hi), fun U hU hW => ⟨rfl, (zWD_ca zcs_lo).mpr ⟨by rw [hU]; exact h3, va_K.moved hW.alike hKs, h4, by rw [hU]; exact ((hOs.1.kept h5.1 h5.2.1).moved hW.alike).ad h1.hi⟩, (hOs.2.warm hW).ad h1.hi⟩⟩ rfl (by rw [List.length_map]; exact hn) h6 (by rw [List.map_append, List.map_reverse]; rfl) (lv_room (by rw [List.map_map]; exact Nat.le_trans (Nat.le_of_eq (congrArg List.sum (List.map_congr_left fun v _ => zr_cat ad v))) hW)) hd ⟨h7, h8⟩)⟩
end ZTS
theorem zat0 {D E : List zDs} {d : zDs} : (D ++ d :: E)[D.length]? = some d := by
  rw [List.getElem?_append_right (Nat.le_refl _), Nat.sub_self]
  rfl
theorem zat1 {D E : List zDs} {d e : zDs} : (D ++ d :: e :: E)[D.length + 1]? = some e := by
  rw [List.getElem?_append_right (show D.length ≤ D.length + 1 from Nat.le_succ _), Nat.add_sub_cancel_left]
  rfl
theorem zset0 {D E : List zDs} {d e : zDs} : (D ++ d :: E).set D.length e = D ++ e :: E := by
  rw [List.set_append, if_neg (Nat.lt_irrefl _), Nat.sub_self]
  rfl
theorem zatL {D E : List zDs} {d : zDs} {i : Nat} (h : D[i]? = some d) : (D ++ E)[i]? = some d := by
  rw [List.getElem?_append_left (List.getElem?_eq_some_iff.mp h).1]
  exact h
theorem nI_s0 {n : Nat} : nI n - (0 : Int32) = nI n := by simp
theorem nI_ge0 {n : Nat} (h : n < 2147483648) : (0 : Int32) ≤ nI n := Int32.le_iff_toInt_le.mpr (by rw [nI_int h]; exact Int.natCast_nonneg n)
/-- the new row N holds the first n letters of the row j; all else is as it was -/
def zcrO (N j n : Nat) (σ σ' : zS) : Prop := zAg N σ σ' ∧ zLn σ' N = n ∧ (∀ k, k < n → σ'.1 N k = σ.1 j k) ∧ sb_Fit (σ'.1 N)
theorem dJ7_checkLength_df160_0 : decode cJ7_checkLength_df160 0 = .ok (.iload_n 1, 1) := by decide +kernel
theorem dJ7_checkLength_df160_1 : decode cJ7_checkLength_df160 1 = .ok (.iload_n 0, 1) := by decide +kernel
theorem dJ7_checkLength_df160_2 : decode cJ7_checkLength_df160 2 = .ok (.if_icmp .ge 35, 3) := by decide +kernel
theorem dJ7_checkLength_df160_5 : decode cJ7_checkLength_df160 5 = .ok (.new 43, 3) := by decide +kernel
theorem dJ7_checkLength_df160_8 : decode cJ7_checkLength_df160 8 = .ok (.dup, 1) := by decide +kernel
theorem dJ7_checkLength_df160_9 : decode cJ7_checkLength_df160 9 = .ok (.new 45, 3) := by decide +kernel
theorem dJ7_checkLength_df160_12 : decode cJ7_checkLength_df160 12 = .ok (.dup, 1) := by decide +kernel
theorem dJ7_checkLength_df160_13 : decode cJ7_checkLength_df160 13 = .ok (.invokespecial 47, 3) := by decide +kernel
theorem dJ7_checkLength_df160_16 : decode cJ7_checkLength_df160 16 = .ok (.iload_n 0, 1) := by decide +kernel
theorem dJ7_checkLength_df160_17 : decode cJ7_checkLength_df160 17 = .ok (.invokevirtual 54, 3) := by decide +kernel
theorem dJ7_checkLength_df160_20 : decode cJ7_checkLength_df160 20 = .ok (.ldc_w 337, 3) := by decide +kernel
theorem dJ7_checkLength_df160_23 : decode cJ7_checkLength_df160 23 = .ok (.invokevirtual 50, 3) := by decide +kernel
theorem dJ7_checkLength_df160_26 : decode cJ7_checkLength_df160 26 = .ok (.iload_n 1, 1) := by decide +kernel
theorem dJ7_checkLength_df160_27 : decode cJ7_checkLength_df160 27 = .ok (.invokevirtual 54, 3) := by decide +kernel
theorem dJ7_checkLength_df160_30 : decode cJ7_checkLength_df160 30 = .ok (.invokevirtual 61, 3) := by decide +kernel
theorem dJ7_checkLength_df160_33 : decode cJ7_checkLength_df160 33 = .ok (.invokespecial 65, 3) := by decide +kernel
theorem dJ7_checkLength_df160_36 : decode cJ7_checkLength_df160 36 = .ok (.athrow, 1) := by decide +kernel
theorem dJ7_checkLength_df160_37 : decode cJ7_checkLength_df160 37 = .ok (.return_, 1) := by decide +kernel
theorem c_ckl {l : Launch} (hl0 : l.flags = flags0) {dl : List zDs} {σ : zS} {n : Nat} (hn : n < 2147483648) : zC l yJ7_checkLength_df160 cJ7_checkLength_df160 2 (Option.none : Option Jvm.ClassFile.FieldType) 0 0 0 [.int 0, .int (nI n)] dl σ (.inl none, dl, σ) := by
  refine zC_of hl0 rfl (Nat.le_of_ble_eq_true rfl) (fun x hG hxl hk _ => ?_)
  subst hxl
  show zK x 0 0 [(0, .int ((0 : Int32))), (1, .int ((nI n)))] [] dl σ 0 0
  refine z_iload_n (pc := 0) hG 1 rfl rfl dJ7_checkLength_df160_0 ?_
  refine z_iload_n (pc := 1) hG 0 rfl rfl dJ7_checkLength_df160_1 ?_
  refine z_icmp_ge (pc := 2) (tgt := 37) hG dJ7_checkLength_df160_2 rfl (fun _ => ?_) (fun hbr => False.elim (hbr (nI_ge0 hn)))
  exact z_vret (pc := 37) hG rfl hk dJ7_checkLength_df160_37
theorem dJ7_copyOfRangeByte_39247_0 : decode cJ7_copyOfRangeByte_39247 0 = .ok (.iload_n 1, 1) := by decide +kernel
theorem dJ7_copyOfRangeByte_39247_1 : decode cJ7_copyOfRangeByte_39247 1 = .ok (.iload_n 2, 1) := by decide +kernel
theorem dJ7_copyOfRangeByte_39247_2 : decode cJ7_copyOfRangeByte_39247 2 = .ok (.invokestatic 343, 3) := by decide +kernel
theorem dJ7_copyOfRangeByte_39247_5 : decode cJ7_copyOfRangeByte_39247 5 = .ok (.iload_n 2, 1) := by decide +kernel
theorem dJ7_copyOfRangeByte_39247_6 : decode cJ7_copyOfRangeByte_39247 6 = .ok (.iload_n 1, 1) := by decide +kernel
theorem dJ7_copyOfRangeByte_39247_7 : decode cJ7_copyOfRangeByte_39247 7 = .ok (.isub, 1) := by decide +kernel
theorem dJ7_copyOfRangeByte_39247_8 : decode cJ7_copyOfRangeByte_39247 8 = .ok (.istore_n 3, 1) := by decide +kernel
theorem dJ7_copyOfRangeByte_39247_9 : decode cJ7_copyOfRangeByte_39247 9 = .ok (.iload_n 3, 1) := by decide +kernel
theorem dJ7_copyOfRangeByte_39247_10 : decode cJ7_copyOfRangeByte_39247 10 = .ok (.newarray .byte, 2) := by decide +kernel
theorem dJ7_copyOfRangeByte_39247_12 : decode cJ7_copyOfRangeByte_39247 12 = .ok (.astore 4, 2) := by decide +kernel
theorem dJ7_copyOfRangeByte_39247_14 : decode cJ7_copyOfRangeByte_39247 14 = .ok (.aload_n 0, 1) := by decide +kernel
theorem dJ7_copyOfRangeByte_39247_15 : decode cJ7_copyOfRangeByte_39247 15 = .ok (.iload_n 1, 1) := by decide +kernel
theorem dJ7_copyOfRangeByte_39247_16 : decode cJ7_copyOfRangeByte_39247 16 = .ok (.aload 4, 2) := by decide +kernel
theorem dJ7_copyOfRangeByte_39247_18 : decode cJ7_copyOfRangeByte_39247 18 = .ok (.iconst 0, 1) := by decide +kernel
theorem dJ7_copyOfRangeByte_39247_19 : decode cJ7_copyOfRangeByte_39247 19 = .ok (.aload_n 0, 1) := by decide +kernel
theorem dJ7_copyOfRangeByte_39247_20 : decode cJ7_copyOfRangeByte_39247 20 = .ok (.arraylength, 1) := by decide +kernel
theorem dJ7_copyOfRangeByte_39247_21 : decode cJ7_copyOfRangeByte_39247 21 = .ok (.iload_n 1, 1) := by decide +kernel
theorem dJ7_copyOfRangeByte_39247_22 : decode cJ7_copyOfRangeByte_39247 22 = .ok (.isub, 1) := by decide +kernel
theorem dJ7_copyOfRangeByte_39247_23 : decode cJ7_copyOfRangeByte_39247 23 = .ok (.iload_n 3, 1) := by decide +kernel
theorem dJ7_copyOfRangeByte_39247_24 : decode cJ7_copyOfRangeByte_39247 24 = .ok (.invokestatic 304, 3) := by decide +kernel
theorem dJ7_copyOfRangeByte_39247_27 : decode cJ7_copyOfRangeByte_39247 27 = .ok (.invokestatic 150, 3) := by decide +kernel
theorem dJ7_copyOfRangeByte_39247_30 : decode cJ7_copyOfRangeByte_39247 30 = .ok (.aload 4, 2) := by decide +kernel
theorem dJ7_copyOfRangeByte_39247_32 : decode cJ7_copyOfRangeByte_39247 32 = .ok (.areturn, 1) := by decide +kernel
theorem c_corB {l : Launch} (hl0 : l.flags = flags0) {dl : List zDs} {σ : zS} {j n n0 : Nat} (hj : dl[j]? = some (.inr (5, n0))) (hj27 : j ≠ 27) (hn : n ≤ zLn σ j) (hm : zLn σ j ≤ 1000) (hfit : sb_Fit (σ.1 j)) (h9 : dl.length < 900) (hfr : dl.all (zrokb dl.length) = true) : zC l yJ7_copyOfRangeByte_39247 cJ7_copyOfRangeByte_39247 5 (Option.some (Jvm.ClassFile.FieldType.array Jvm.ClassFile.FieldType.byte)) 1 1 n [.ref j, .int 0, .int (nI n)] dl σ (.inl (some (.ref dl.length)), dl ++ [.inr (5, 0)], zcpy (zini σ dl.length n) j dl.length 0 0 (nI n)) := by
  have hoj : zoks dl.length (.ref j) = true := zoks_of hj hj27
  have hjn : j ≠ dl.length := Nat.ne_of_lt (List.getElem?_eq_some_iff.mp hj).1
  have hnj : zokn dl.length (.ref j) = true := bne_iff_ne.mpr hjn
  have hj2 : (dl ++ [(.inr (5, 0) : zDs)])[j]? = some (.inr (5, n0)) := zatL hj
  have hm0 : zLn σ j < 2147483648 := by show zLn σ j < 2147483648; omega
  have hn0 : n < 2147483648 := by omega
  have hL : zLn (zini σ dl.length n) j = zLn σ j := congrArg (fun z => (z 0).toNatClampNeg) (zini_ag.1 j hjn).2
  have hmin : (if nI n < nI (zLn σ j) then nI n else nI (zLn σ j)) = nI n := by
    by_cases e : n = zLn σ j
    · rw [← e]; exact ite_self _
    · exact if_pos (nI_lt (by omega) hm0)
  refine zC_of hl0 rfl (Nat.le_of_ble_eq_true rfl) (fun x hG hxl hk _ => ?_)
  subst hxl
  show zK x 1 0 [(0, .ref j), (1, .int ((0 : Int32))), (2, .int ((nI n)))] [] dl σ 1 n
  refine z_iload_n (pc := 0) hG 1 rfl rfl dJ7_copyOfRangeByte_39247_0 ?_
  refine z_iload_n (pc := 1) hG 2 rfl rfl dJ7_copyOfRangeByte_39247_1 ?_
  refine z_statS (pc := 2) (A' := 1) (B' := n) (st2 := []) (v := none) hG [.int ((0 : Int32)), .int ((nI n))] [] (c_ckl hl0 (by omega)) zy_J7_checkLength_df160 w1044 w1043 dJ7_copyOfRangeByte_39247_2 rfl (Nat.le_of_ble_eq_true rfl) (Nat.le_refl _) rfl (zand hoj (zand rfl (zand rfl rfl))) rfl rfl (Nat.le_of_ble_eq_true rfl) rfl rfl ?_
  refine z_iload_n (pc := 5) hG 2 rfl rfl dJ7_copyOfRangeByte_39247_5 ?_
  refine z_iload_n (pc := 6) hG 1 rfl rfl dJ7_copyOfRangeByte_39247_6 ?_
  refine z_isub (pc := 7) hG dJ7_copyOfRangeByte_39247_7 ?_
  rw [show ((nI n) - (0 : Int32)) = (nI n) from nI_s0]
  refine z_istore_n (pc := 8) (ls' := [(3, .int ((nI n))), (0, .ref j), (1, .int ((0 : Int32))), (2, .int ((nI n)))]) hG [0, 1, 2, 3] rfl (by decide) rfl dJ7_copyOfRangeByte_39247_8 ?_
  refine z_iload_n (pc := 9) hG 0 rfl rfl dJ7_copyOfRangeByte_39247_9 ?_
  refine z_ini dl.length n (Nat.le_refl _) ?_
  refine z_newa (pc := 10) (A' := 0) (B' := 0) (atype := .byte) (t := 1) (N := n) (z := (n, .inl (fun _ => 0))) hG wa_byte rfl (fun _ => rfl) rfl (fun _ _ => Iff.rfl) (i := dl.length) rfl h9 hfr (dsc := .inr (5, 0)) (fun ad ca => by show (Sum.inl (ca 1, zLn (zini σ dl.length n) dl.length, Sum.inl ((zini σ dl.length n).1 dl.length)) : va_E) = _; rw [zini_s, zini_L (by omega)]) (fun _ => rfl) (nI_pos (by omega)) (nI_clamp (by omega)) (by show n * 1 ≤ 536870912; omega) rfl (zand rfl (zand hnj (zand rfl (zand rfl rfl)))) (dl' := dl ++ [.inr (5, 0)]) rfl rfl (Nat.zero_add _).symm dJ7_copyOfRangeByte_39247_10 ?_
  refine z_astore (pc := 12) (ls' := [(4, .ref dl.length), (3, .int ((nI n))), (0, .ref j), (1, .int ((0 : Int32))), (2, .int ((nI n)))]) hG [0, 1, 2, 3, 4] (by decide) rfl dJ7_copyOfRangeByte_39247_12 ?_
  refine z_aload_n (pc := 14) hG 2 rfl rfl dJ7_copyOfRangeByte_39247_14 ?_
  refine z_iload_n (pc := 15) hG 3 rfl rfl dJ7_copyOfRangeByte_39247_15 ?_
  refine z_aload (pc := 16) hG 0 rfl dJ7_copyOfRangeByte_39247_16 ?_
  refine z_iconst (pc := 18) (v := (0 : Int32)) hG (by decide) dJ7_copyOfRangeByte_39247_18 ?_
  refine z_aload_n (pc := 19) hG 2 rfl rfl dJ7_copyOfRangeByte_39247_19 ?_
  refine z_alen5 (pc := 20) hG hj2 dJ7_copyOfRangeByte_39247_20 ?_
  refine z_iload_n (pc := 21) hG 3 rfl rfl dJ7_copyOfRangeByte_39247_21 ?_
  refine z_isub (pc := 22) hG dJ7_copyOfRangeByte_39247_22 ?_
  rw [show ((nI (zLn (zini σ dl.length n) j)) - (0 : Int32)) = (nI (zLn σ j)) from (by rw [nI_s0]; exact congrArg nI hL)]
  refine z_iload_n (pc := 23) hG 1 rfl rfl dJ7_copyOfRangeByte_39247_23 ?_
  refine z_mmin (pc := 24) hG w181 w182 w16 w183 (Nat.le_of_ble_eq_true rfl) dJ7_copyOfRangeByte_39247_24 ?_
  rw [show (if nI n < nI (zLn σ j) then nI n else nI (zLn σ j)) = nI n from hmin]
  refine z_copyX (pc := 27) (m0 := zLn σ j) (m1 := n) hG hj2 zat0 (fun _ ca => by show (Sum.inl (ca 1, zLn (zini σ dl.length n) j, _) : va_E) = _; rw [hL]) (fun _ ca => by show (Sum.inl (ca 1, zLn (zini σ dl.length n) dl.length, _) : va_E) = _; rw [zini_L (by omega)]) (fun _ ca => by show (Sum.inl (ca 1, zLn (zini σ dl.length n) dl.length, _) : va_E) = _; rw [zini_L (by omega)]) w184 w186 w185 w18 (Nat.le_of_ble_eq_true rfl) (decide_eq_true ⟨by decide, by decide, nI_pos (by omega), by rw [nI_clamp (by omega)]; show 0 + n ≤ zLn σ j; omega, by rw [nI_clamp (by omega)]; show 0 + n ≤ n; omega⟩) (by rw [(zini_ag.1 j hjn).1]; exact fits_all hfit) dJ7_copyOfRangeByte_39247_27 ?_
  refine z_aload (pc := 30) hG 0 rfl dJ7_copyOfRangeByte_39247_30 ?_
  exact z_aret (pc := 32) hG rfl hk dJ7_copyOfRangeByte_39247_32
theorem corB_O {σ : zS} {N j n : Nat} (hjn : j ≠ N) (hn : n < 2147483648) (hfit : sb_Fit (σ.1 j)) : zcrO N j n σ (zcpy (zini σ N n) j N 0 0 (nI n)) := by
  have e1 : (zcpy (zini σ N n) j N 0 0 (nI n)).1 N = va_cpy (σ.1 j) (fun _ => 0) 0 0 n := by
    rw [zcpy_at, (zini_ag.1 j hjn).1, zini_s, nI_clamp hn]
    rfl
  refine ⟨⟨fun a ha => ⟨(zir_n ha).trans (zini_ag.1 a ha).1, (zini_ag.1 a ha).2⟩, rfl⟩, zini_L hn, fun k hk => ?_, ?_⟩
  · rw [e1]
    exact sb_cpy0 hk
  · rw [e1]
    exact sb_fitC hfit sb_fit0
theorem dJ7_copyOfRange_39247_0 : decode cJ7_copyOfRange_39247 0 = .ok (.iload_n 1, 1) := by decide +kernel
theorem dJ7_copyOfRange_39247_1 : decode cJ7_copyOfRange_39247 1 = .ok (.ifCond .ne 9, 3) := by decide +kernel
theorem dJ7_copyOfRange_39247_4 : decode cJ7_copyOfRange_39247 4 = .ok (.iload_n 2, 1) := by decide +kernel
theorem dJ7_copyOfRange_39247_5 : decode cJ7_copyOfRange_39247 5 = .ok (.aload_n 0, 1) := by decide +kernel
theorem dJ7_copyOfRange_39247_6 : decode cJ7_copyOfRange_39247 6 = .ok (.arraylength, 1) := by decide +kernel
theorem dJ7_copyOfRange_39247_7 : decode cJ7_copyOfRange_39247 7 = .ok (.if_icmp .eq 10, 3) := by decide +kernel
theorem dJ7_copyOfRange_39247_10 : decode cJ7_copyOfRange_39247 10 = .ok (.aload_n 0, 1) := by decide +kernel
theorem dJ7_copyOfRange_39247_11 : decode cJ7_copyOfRange_39247 11 = .ok (.iload_n 1, 1) := by decide +kernel
theorem dJ7_copyOfRange_39247_12 : decode cJ7_copyOfRange_39247 12 = .ok (.iload_n 2, 1) := by decide +kernel
theorem dJ7_copyOfRange_39247_13 : decode cJ7_copyOfRange_39247 13 = .ok (.invokestatic 339, 3) := by decide +kernel
theorem dJ7_copyOfRange_39247_16 : decode cJ7_copyOfRange_39247 16 = .ok (.areturn, 1) := by decide +kernel
theorem dJ7_copyOfRange_39247_17 : decode cJ7_copyOfRange_39247 17 = .ok (.aload_n 0, 1) := by decide +kernel
theorem dJ7_copyOfRange_39247_18 : decode cJ7_copyOfRange_39247 18 = .ok (.invokevirtual 310, 3) := by decide +kernel
theorem dJ7_copyOfRange_39247_21 : decode cJ7_copyOfRange_39247 21 = .ok (.checkcast 311, 3) := by decide +kernel
theorem dJ7_copyOfRange_39247_24 : decode cJ7_copyOfRange_39247 24 = .ok (.areturn, 1) := by decide +kernel
theorem c_corR {l : Launch} (hl0 : l.flags = flags0) {dl : List zDs} {σ : zS} {j n n0 : Nat} (hj : dl[j]? = some (.inr (5, n0))) (hj27 : j ≠ 27) (hn : n ≤ zLn σ j) (hm : zLn σ j ≤ 1000) (hfit : sb_Fit (σ.1 j)) (h9 : dl.length < 900) (hfr : dl.all (zrokb dl.length) = true) : ∃ σ', zC l yJ7_copyOfRange_39247 cJ7_copyOfRange_39247 3 (Option.some (Jvm.ClassFile.FieldType.array Jvm.ClassFile.FieldType.byte)) 2 1 n [.ref j, .int 0, .int (nI n)] dl σ (.inl (some (.ref dl.length)), dl ++ [.inr (5, 0)], σ') ∧ zcrO dl.length j n σ σ' := by
  have hoj : zoks dl.length (.ref j) = true := zoks_of hj hj27
  have hjn : j ≠ dl.length := Nat.ne_of_lt (List.getElem?_eq_some_iff.mp hj).1
  have hnj : zokn dl.length (.ref j) = true := bne_iff_ne.mpr hjn
  have hm0 : zLn σ j < 2147483648 := by show zLn σ j < 2147483648; omega
  have hn0 : n < 2147483648 := by omega
  by_cases e : n = zLn σ j
  · refine ⟨zcln σ dl.length j, ?_, zcln_ag, (zcln_L hm0).trans e.symm, fun k _ => by rw [zcln_s], by rw [zcln_s]; exact hfit⟩
    refine zC_of hl0 rfl (Nat.le_of_ble_eq_true rfl) (fun x hG hxl hk _ => ?_)
    subst hxl
    show zK x 2 0 [(0, .ref j), (1, .int ((0 : Int32))), (2, .int ((nI n)))] [] dl σ 1 n
    refine z_iload_n (pc := 0) hG 1 rfl rfl dJ7_copyOfRange_39247_0 ?_
    refine z_if_ne (pc := 1) (tgt := 10) hG dJ7_copyOfRange_39247_1 rfl (fun hbr => False.elim ((fun h => h rfl) hbr)) (fun _ => ?_)
    refine z_iload_n (pc := 4) hG 2 rfl rfl dJ7_copyOfRange_39247_4 ?_
    refine z_aload_n (pc := 5) hG 0 rfl rfl dJ7_copyOfRange_39247_5 ?_
    refine z_alen5 (pc := 6) hG hj dJ7_copyOfRange_39247_6 ?_
    refine z_icmp_eq (pc := 7) (tgt := 17) hG dJ7_copyOfRange_39247_7 rfl (fun _ => ?_) (fun hbr => False.elim (hbr (congrArg nI e)))
    refine z_aload_n (pc := 17) hG 0 rfl rfl dJ7_copyOfRange_39247_17 ?_
    refine z_clone5 (pc := 18) (A' := 0) (B' := 0) hG hj rfl h9 hfr hm0 hfit w871 rfl (zand hnj (zand rfl (zand rfl rfl))) (Nat.le_of_ble_eq_true rfl) rfl ((Nat.zero_add _).symm ▸ e) dJ7_copyOfRange_39247_18 ?_
    refine z_cast5 (pc := 21) hG zat0 w875 dJ7_copyOfRange_39247_21 ?_
    exact z_aret (pc := 24) hG rfl hk dJ7_copyOfRange_39247_24
  · refine ⟨_, ?_, corB_O hjn hn0 hfit⟩
    refine zC_of hl0 rfl (Nat.le_of_ble_eq_true rfl) (fun x hG hxl hk _ => ?_)
    subst hxl
    show zK x 2 0 [(0, .ref j), (1, .int ((0 : Int32))), (2, .int ((nI n)))] [] dl σ 1 n
    refine z_iload_n (pc := 0) hG 1 rfl rfl dJ7_copyOfRange_39247_0 ?_
    refine z_if_ne (pc := 1) (tgt := 10) hG dJ7_copyOfRange_39247_1 rfl (fun hbr => False.elim ((fun h => h rfl) hbr)) (fun _ => ?_)
    refine z_iload_n (pc := 4) hG 2 rfl rfl dJ7_copyOfRange_39247_4 ?_
    refine z_aload_n (pc := 5) hG 0 rfl rfl dJ7_copyOfRange_39247_5 ?_
    refine z_alen5 (pc := 6) hG hj dJ7_copyOfRange_39247_6 ?_
    refine z_icmp_eq (pc := 7) (tgt := 17) hG dJ7_copyOfRange_39247_7 rfl (fun hbr => False.elim ((nI_neq hn0 hm0 e) hbr)) (fun _ => ?_)
    refine z_aload_n (pc := 10) hG 0 rfl rfl dJ7_copyOfRange_39247_10 ?_
    refine z_iload_n (pc := 11) hG 1 rfl rfl dJ7_copyOfRange_39247_11 ?_
    refine z_iload_n (pc := 12) hG 2 rfl rfl dJ7_copyOfRange_39247_12 ?_
    refine z_statS (pc := 13) (A' := 0) (B' := 0) (st2 := [.ref dl.length]) (v := some (.ref dl.length)) hG [.ref j, .int (0 : Int32), .int (nI n)] [] (c_corB hl0 hj hj27 hn hm hfit h9 hfr) zy_J7_copyOfRangeByte_39247 w1041 w1040 dJ7_copyOfRange_39247_13 rfl (Nat.le_of_ble_eq_true rfl) (by rw [List.length_append]; omega) rfl (zand hoj (zand rfl (zand rfl rfl))) rfl (Nat.zero_add _).symm (Nat.le_of_ble_eq_true rfl) rfl rfl ?_
    exact z_aret (pc := 16) hG rfl hk dJ7_copyOfRange_39247_16
theorem dJ5_getValue_6d5f1_0 : decode cJ5_getValue_6d5f1 0 = .ok (.aload_n 0, 1) := by decide +kernel
theorem dJ5_getValue_6d5f1_1 : decode cJ5_getValue_6d5f1 1 = .ok (.getfield 15, 3) := by decide +kernel
theorem dJ5_getValue_6d5f1_4 : decode cJ5_getValue_6d5f1 4 = .ok (.areturn, 1) := by decide +kernel
theorem c_getv {l : Launch} (hl0 : l.flags = flags0) {dl : List zDs} {σ : zS} {i j : Nat} (hi : dl[i]? = some (zSB j)) : zC l yJ5_getValue_6d5f1 cJ5_getValue_6d5f1 1 (Option.some (Jvm.ClassFile.FieldType.array Jvm.ClassFile.FieldType.byte)) 0 0 0 [.ref i] dl σ (.inl (some (.ref j)), dl, σ) := by
  refine zC_of hl0 rfl (Nat.le_of_ble_eq_true rfl) (fun x hG hxl hk _ => ?_)
  subst hxl
  show zK x 0 0 [(0, .ref i)] [] dl σ 0 0
  refine z_aload_n (pc := 0) hG 0 rfl rfl dJ5_getValue_6d5f1_0 ?_
  refine z_getr (pc := 1) hG zc_J4 inJ4 hi 0 rfl (by decide) rfl w819 dJ5_getValue_6d5f1_1 ?_
  exact z_aret (pc := 4) hG rfl hk dJ5_getValue_6d5f1_4
