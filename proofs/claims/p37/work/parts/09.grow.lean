
/-! ===== the row of found boxes grows ===== -/
def zgrow (σ : zS) : zS := (fun a k => if a = 27 then (if k < σ.2.2.2 then σ.1 27 k else 0) else σ.1 a k, σ.2.1, σ.2.2.1, 2 * σ.2.2.2)
def zgro (σ : zS) : Bool := decide (σ.1 26 3 = nI σ.2.2.2) && (decide (64 ≤ σ.2.2.2) && decide (σ.2.2.2 ≤ 1048576))
theorem zgro_le {σ : zS} {C : Nat} (h : zgro σ = true) (hb : zgr (zgrow σ) C) : zgr σ C := by
  have h2 : 2 * σ.2.2.2 ≤ C := hb
  show σ.2.2.2 ≤ C
  omega
theorem wa_byte : Cond.arrayClass (newarray.typeOf .byte) ∈ zT := zT_k1 51 rfl rfl
theorem wa_int : Cond.arrayClass (newarray.typeOf .int) ∈ zT := zT_k1 121 rfl rfl
theorem wa_long : Cond.arrayClass (newarray.typeOf .long) ∈ zT := zT_k1 174 rfl rfl
theorem wa_boolean : Cond.arrayClass (newarray.typeOf .boolean) ∈ zT := zT_k7 153 rfl rfl

theorem z_len {x : zXx} {F pc : Nat} {ls : List (Nat × Value)} {st : List Value} {dl : List zDs} {σ : zS} {A B : Nat} (h : x.2.2.2.2.2.2.2.2.2.2.2.2.2.2.1 ≤ dl.length → zK x F pc ls st dl σ A B) : zK x F pc ls st dl σ A B := by
  obtain ⟨p, l, e, R, s, m, args, below, meth, c, D, ca, b0, ad0, n0, tg⟩ := x
  intro ad H locs la cells slots h1 h2 h3 h4 h5 h6 h7 h8 h9 h10
  exact h h2 ad H locs la cells slots h1 h2 h3 h4 h5 h6 h7 h8 h9 h10
theorem z_irr {x : zXx} {F pc : Nat} {ls : List (Nat × Value)} {st : List Value} {dl : List zDs} {σ : zS} {A B i : Nat} {f : Nat → Int32} (hi : dl.length ≤ i) (k : zK x F pc ls st dl (zir σ i f) A B) : zK x F pc ls st dl σ A B := by
  obtain ⟨p, l, e, R, s, m, args, below, meth, c, D, ca, b0, ad0, n0, tg⟩ := x
  intro ad H locs la cells slots h1 h2 h3 h4 h5 h6 h7 h8 h9 h10
  have hz : zws ad ca dl (zir σ i f) = zws ad ca dl σ := by
    apply List.ext_getElem?
    intro j
    simp only [zws, List.getElem?_mapIdx]
    cases hj : dl[j]? with
    | none => rfl
    | some d =>
      have hjl := (List.getElem?_eq_some_iff.mp hj).1
      show some (ad j, zcell ad ca (zir σ i f) j d) = some (ad j, zcell ad ca σ j d)
      rw [zcell_ne (σ := σ) (σ' := zir σ i f) (show (if j = i then f else σ.1 j) = σ.1 j from if_neg (by omega)) rfl rfl]
  exact k ad H locs la cells slots h1 h2 (by rw [hz]; exact h3) (by rw [hz]; exact h4) h5 h6 h7 h8 h9 h10
section ZGr
variable {x : zXx} {cc : ByteArray} {nL : Nat} {own : String} {ret : Option FieldType} {F pc : Nat} {ls : List (Nat × Value)} {st : List Value} {dl : List zDs} {σ : zS} {A B : Nat}
theorem z_copyF {index i j n0 n1 : Nat} {sp dp n : Int32} (hG : zG x cc nL own ret) (hi : dl[i]? = some (.inr (4, n0))) (hj : dl[j]? = some (.inr (0, n1))) (hlink : Cond.methodLink own index arraycopyName ∈ zT) (hnat : Cond.native arraycopyName ∈ zT) (hstat : Cond.static arraycopyName ∈ zT) (hini : Cond.initialized "java/lang/System" ∈ zT) (hW : (st.map fun v => v.category).sum ≤ 8) (hc : zcpo sp dp n σ.2.2.2 n1 = true) (hd : decode cc pc = .ok (.invokestatic index, 3))
    (kk : zK x F (pc + 3) ls st dl (zcpy σ i j sp dp n) A B) : zK x F pc ls (.int n :: .int dp :: .ref j :: .int sp :: .ref i :: st) dl σ A B := by
  obtain ⟨p, l, e, R, s, m, args, below, meth, c, D, ca, b0, ad0, n0, tg⟩ := x
  obtain ⟨hx, hb, hml, hown, hts, hret, hlk, htab, hKs, hOs, hfl⟩ := hG
  intro ad H locs la cells slots h1 h2 h3 h4 h5 h6 h7 h8 h9 h10
  have hsum : ((st.map (zr ad)).map fun v => v.category).sum ≤ 8 := by
    rw [List.map_map]
    exact Nat.le_trans (Nat.le_of_eq (congrArg List.sum (List.map_congr_left fun v _ => zr_cat ad v))) hW
  obtain ⟨c1, c2, c3, c4, c5⟩ := of_decide_eq_true hc
  have hnf : nativeFrameWords "java/lang/System" "arraycopy" 5 ≤ 60 := by decide
  refine va_copyi hx hb h6.1.symm hown (hts _ hlink) (hts _ hnat) (hts _ hstat) (hts _ hini) hKs h3 h4 h5 i j 0 0 (zws_at hi) (zws_at hj) (ty := .int) rfl rfl rfl c1 c2 c3 c4 c5 (fun _ _ => rfl) (by omega) (by omega) hd (fun H1 locs1 g1 g2 g3 => ?_)
  have hz := zws_set (ad := ad) (ca := ca) (σ := σ) (σ' := zcpy σ i j sp dp n) hj (e := .inl (ca 0, n1, .inl (va_cpy (σ.1 i) (σ.1 j) sp.toNatClampNeg dp.toNatClampNeg n.toNatClampNeg))) (by show (.inl (ca 0, n1, .inl ((zcpy σ i j sp dp n).1 j)) : va_E) = _; rw [zcpy_at]) (fun q hq => if_neg hq) (fun _ _ => rfl) rfl
  rw [hz] at g1 g2
  exact kk ad H1 locs1 la cells slots h1 h2 g1 g2 g3 h6 h7 h8 h9 h10
theorem z_mmin {index : Nat} {u v : Int32} (hG : zG x cc nL own ret) (hlink : Cond.methodLink own index Lib.Math.min.name ∈ zT) (hstat : Cond.static Lib.Math.min.name ∈ zT) (hini : Cond.initialized "java/lang/Math" ∈ zT) (hcode : Cond.code Lib.Math.min.name Lib.Math.min.code 2 (some .int) ∈ zT) (hW : (st.map fun v => v.category).sum ≤ 8) (hd : decode cc pc = .ok (.invokestatic index, 3))
    (kk : zK x F (pc + 3) ls (.int (if v < u then v else u) :: st) dl σ A B) : zK x F pc ls (.int v :: .int u :: st) dl σ A B := by
  obtain ⟨p, l, e, R, s, m, args, below, meth, c, D, ca, b0, ad0, n0, tg⟩ := x
  obtain ⟨hx, hb, hml, hown, hts, hret, hlk, htab, hKs, hOs, hfl⟩ := hG
  intro ad H locs la cells slots h1 h2 h3 h4 h5 h6 h7 h8 h9 h10
  have hsum : ((st.map (zr ad)).map fun v => v.category).sum ≤ 8 := by
    rw [List.map_map]
    exact Nat.le_trans (Nat.le_of_eq (congrArg List.sum (List.map_congr_left fun v _ => zr_cat ad v))) hW
  refine va_mmin hx hb h6.1.symm hown (hts _ hlink) (hts _ hstat) (hts _ hini) (hts _ hcode) (by omega) (by omega) (by omega) (by omega) hd ?_
  exact kk ad H locs la cells slots h1 h2 h3 h4 h5 h6 h7 h8 h9 h10
theorem z_aret {i : Nat} {t : FieldType} (hG : zG x cc nL own ret) (hr : ret = some (.array t)) (htg : ztg x = (.inl (some (.ref i)), dl, σ)) (hd : decode cc pc = .ok (.areturn, 1)) : zK x F pc ls [.ref i] dl σ A B := by
  obtain ⟨p, l, e, R, s, m, args, below, meth, c, D, ca, b0, ad0, n0, tg⟩ := x
  obtain ⟨hx, hb, hml, hown, hts, hret, hlk, htab, hKs, hOs, hfl⟩ := hG
  intro ad H locs la cells slots h1 h2 h3 h4 h5 h6 h7 h8 h9 h10
  have htg : tg = (.inl (some (.ref i)), dl, σ) := htg
  subst htg
  refine W.widen (k := R.cells) (n := R.slots) (by omega) (by omega) (vx_ret ?_)
  exact W.aret hx hb (hret.trans hr) (Or.inr ⟨t, rfl⟩) (Or.inr ⟨ad i, rfl⟩) (fun t ht hW => ⟨⟨_, ad, rfl, rfl, h1, by rw [show t.heap = H from ht]; exact h3, va_K.moved hW.alike hKs, h4, by rw [show t.heap = H from ht]; exact ((hOs.1.kept h5.1 h5.2.1).moved hW.alike).ad h1.hi⟩, h5.F ht⟩) h5.2.2 hd hlk
end ZGr
theorem nI_cl {n : Nat} (h : n < 2147483648) : (nI n).toNatClampNeg = n := Int32.toNatClampNeg_ofNat_of_lt h
theorem nI_int {n : Nat} (h : n < 2147483648) : (nI n).toInt = n := Int32.toInt_ofNat_of_lt h
theorem nI_nn {n : Nat} (h : n < 2147483648) : ¬ nI n < 0 := fun q => by
  have h2 := Int32.lt_iff_toInt_lt.mp q
  rw [nI_int h] at h2
  have h3 : (0 : Int32).toInt = 0 := by decide
  omega
/-- behind Arrays.copyOf: the new row stands at 73 -/
def zgr1 (σ : zS) : zS := zcpy (zir σ 73 (fun _ => 0)) 27 73 0 0 (nI σ.2.2.2)
theorem dJ7_copyOf_59c91_0 : decode cJ7_copyOf_59c91 0 = .ok (.iload_n 1, 1) := by decide +kernel
theorem dJ7_copyOf_59c91_1 : decode cJ7_copyOf_59c91 1 = .ok (.aload_n 0, 1) := by decide +kernel
theorem dJ7_copyOf_59c91_2 : decode cJ7_copyOf_59c91 2 = .ok (.arraylength, 1) := by decide +kernel
theorem dJ7_copyOf_59c91_3 : decode cJ7_copyOf_59c91 3 = .ok (.if_icmp .ne 11, 3) := by decide +kernel
theorem dJ7_copyOf_59c91_6 : decode cJ7_copyOf_59c91 6 = .ok (.aload_n 0, 1) := by decide +kernel
theorem dJ7_copyOf_59c91_7 : decode cJ7_copyOf_59c91 7 = .ok (.invokevirtual 316, 3) := by decide +kernel
theorem dJ7_copyOf_59c91_10 : decode cJ7_copyOf_59c91 10 = .ok (.checkcast 317, 3) := by decide +kernel
theorem dJ7_copyOf_59c91_13 : decode cJ7_copyOf_59c91 13 = .ok (.areturn, 1) := by decide +kernel
theorem dJ7_copyOf_59c91_14 : decode cJ7_copyOf_59c91 14 = .ok (.iload_n 1, 1) := by decide +kernel
theorem dJ7_copyOf_59c91_15 : decode cJ7_copyOf_59c91 15 = .ok (.newarray .int, 2) := by decide +kernel
theorem dJ7_copyOf_59c91_17 : decode cJ7_copyOf_59c91 17 = .ok (.astore_n 2, 1) := by decide +kernel
theorem dJ7_copyOf_59c91_18 : decode cJ7_copyOf_59c91 18 = .ok (.aload_n 0, 1) := by decide +kernel
theorem dJ7_copyOf_59c91_19 : decode cJ7_copyOf_59c91 19 = .ok (.iconst 0, 1) := by decide +kernel
theorem dJ7_copyOf_59c91_20 : decode cJ7_copyOf_59c91 20 = .ok (.aload_n 2, 1) := by decide +kernel
theorem dJ7_copyOf_59c91_21 : decode cJ7_copyOf_59c91 21 = .ok (.iconst 0, 1) := by decide +kernel
theorem dJ7_copyOf_59c91_22 : decode cJ7_copyOf_59c91 22 = .ok (.aload_n 0, 1) := by decide +kernel
theorem dJ7_copyOf_59c91_23 : decode cJ7_copyOf_59c91 23 = .ok (.arraylength, 1) := by decide +kernel
theorem dJ7_copyOf_59c91_24 : decode cJ7_copyOf_59c91 24 = .ok (.iload_n 1, 1) := by decide +kernel
theorem dJ7_copyOf_59c91_25 : decode cJ7_copyOf_59c91 25 = .ok (.invokestatic 304, 3) := by decide +kernel
theorem dJ7_copyOf_59c91_28 : decode cJ7_copyOf_59c91 28 = .ok (.invokestatic 150, 3) := by decide +kernel
theorem dJ7_copyOf_59c91_31 : decode cJ7_copyOf_59c91 31 = .ok (.aload_n 2, 1) := by decide +kernel
theorem dJ7_copyOf_59c91_32 : decode cJ7_copyOf_59c91 32 = .ok (.areturn, 1) := by decide +kernel
set_option maxRecDepth 100000 in
theorem c_copyOf {l : Launch} (hl0 : l.flags = flags0) {σ : zS} {w : Int32} (h64 : 64 ≤ σ.2.2.2) (hmx : σ.2.2.2 ≤ 1048576) (hw0 : ¬ w < 0) (hw : w.toNatClampNeg = 2 * σ.2.2.2) (hwn : ¬ w < nI σ.2.2.2) : zC l yJ7_copyOf_59c91 cJ7_copyOf_59c91 3 (some (.array .int)) 1 1 (2 * σ.2.2.2) [.ref 27, .int w] zD σ (.inl (some (.ref 73)), zD ++ [.inr (0, 2 * σ.2.2.2)], zgr1 σ) := by
  refine zC_of hl0 rfl (Nat.le_of_ble_eq_true rfl) (fun x hG hxl hk _ => ?_)
  subst hxl
  show zK x 1 0 [(0, .ref 27), (1, .int w)] [] zD σ 1 (2 * σ.2.2.2)
  refine z_iload_n (pc := 0) hG 1 rfl rfl dJ7_copyOf_59c91_0 ?_
  refine z_aload_n (pc := 1) hG 0 rfl rfl dJ7_copyOf_59c91_1 ?_
  refine z_alenF (pc := 2) hG DL_27 dJ7_copyOf_59c91_2 ?_
  refine z_icmp_ne (pc := 3) (tgt := 14) hG dJ7_copyOf_59c91_3 rfl (fun hc => ?_) (fun hc => ?_)
  · refine z_irr (i := 73) (f := fun _ => 0) (Nat.le_of_eq zD_n) ?_
    refine z_iload_n (pc := 14) hG 1 rfl rfl dJ7_copyOf_59c91_14 ?_
    refine z_newa (pc := 15) (A' := 0) (B' := 0) (atype := .int) (t := 0) (N := 2 * σ.2.2.2) (z := (2 * σ.2.2.2, .inl (fun _ => 0))) hG wa_int rfl (fun _ => rfl) rfl (fun _ _ => Iff.rfl) (i := 73) zD_n (by decide) (by decide) (dsc := .inr (0, 2 * σ.2.2.2)) (fun _ _ => rfl) (fun _ => rfl) hw0 hw (by show 2 * σ.2.2.2 * 4 ≤ 536870912; omega) rfl rfl (dl' := zD ++ [.inr (0, 2 * σ.2.2.2)]) rfl rfl (Nat.zero_add _).symm dJ7_copyOf_59c91_15 ?_
    refine z_astore_n (pc := 17) (ls' := [(2, .ref 73), (0, .ref 27), (1, .int w)]) hG [0, 1, 2] rfl (by decide) rfl dJ7_copyOf_59c91_17 ?_
    refine z_aload_n (pc := 18) hG 1 rfl rfl dJ7_copyOf_59c91_18 ?_
    refine z_iconst (pc := 19) hG kc_0 dJ7_copyOf_59c91_19 ?_
    refine z_aload_n (pc := 20) hG 0 rfl rfl dJ7_copyOf_59c91_20 ?_
    refine z_iconst (pc := 21) hG kc_0 dJ7_copyOf_59c91_21 ?_
    refine z_aload_n (pc := 22) hG 1 rfl rfl dJ7_copyOf_59c91_22 ?_
    refine z_alenF (pc := 23) (n := 64) hG rfl dJ7_copyOf_59c91_23 ?_
    refine z_iload_n (pc := 24) hG 2 rfl rfl dJ7_copyOf_59c91_24 ?_
    refine z_mmin (pc := 25) hG w393 w394 w26 w395 (Nat.le_of_ble_eq_true rfl) dJ7_copyOf_59c91_25 ?_
    show zK x 1 28 _ (.int (if w < nI σ.2.2.2 then w else nI σ.2.2.2) :: _) _ _ _ _
    rw [if_neg hwn]
    refine z_copyF (pc := 28) (n0 := 64) (n1 := 2 * σ.2.2.2) hG rfl rfl w396 w398 w397 w20 (Nat.le_of_ble_eq_true rfl) (decide_eq_true ⟨by decide, by decide, nI_nn (by omega), by rw [nI_cl (by omega)]; show 0 + σ.2.2.2 ≤ σ.2.2.2; omega, by rw [nI_cl (by omega)]; show 0 + σ.2.2.2 ≤ 2 * σ.2.2.2; omega⟩) dJ7_copyOf_59c91_28 ?_
    refine z_aload_n (pc := 31) hG 0 rfl rfl dJ7_copyOf_59c91_31 ?_
    exact z_aret (pc := 32) hG rfl hk dJ7_copyOf_59c91_32
  · exfalso
    rw [hc, nI_cl (by omega)] at hw
    omega
/-- the world with the new row in the old one's place -/
theorem zcell_gr {ad : Nat → Nat} {ca : Nat → ClassId} {σ : zS} {j : Nat} {d : zDs} (hj : j ≠ 27) (hd : znsw d = true ∨ ∃ ci fl, d = .inl (ci, fl)) (hd4 : ∀ n, d ≠ .inr (4, n)) : zcell ad ca (zgrow σ) j d = zcell ad ca σ j d := by
  have e1 : (zgrow σ).1 j = σ.1 j := by
    funext k
    exact if_neg hj
  rcases d with ⟨ci, fl⟩ | ⟨t, n⟩
  · show (Sum.inr (ci, _) : va_E) = Sum.inr (ci, _)
    congr 2
    apply List.ext_getElem?
    intro k
    simp only [List.getElem?_mapIdx]
    congr 1
    funext q
    obtain ⟨a, b⟩ := q
    rcases a with _ | _ | _ | a
    · show Value.int _ = Value.int _
      rw [e1]
    · rfl
    · rfl
    · rfl
  · rcases t with _ | _ | _ | _ | _ | t
    · show (Sum.inl (ca 0, n, Sum.inl ((zgrow σ).1 j)) : va_E) = Sum.inl (ca 0, n, Sum.inl (σ.1 j))
      rw [e1]
    · show (Sum.inl (ca 1, n, Sum.inl ((zgrow σ).1 j)) : va_E) = Sum.inl (ca 1, n, Sum.inl (σ.1 j))
      rw [e1]
    · show (Sum.inl (ca 2, n, Sum.inl ((zgrow σ).1 j)) : va_E) = Sum.inl (ca 2, n, Sum.inl (σ.1 j))
      rw [e1]
    · rfl
    · exact (hd4 n rfl).elim
    · show (Sum.inl (ca _, n, Sum.inl ((zgrow σ).1 j)) : va_E) = Sum.inl (ca _, n, Sum.inl (σ.1 j))
      rw [e1]
def zn4 : zDs → Bool
  | .inr (4, _) => false
  | _ => true
def zflB : List (Nat × Nat) := [(1, 3), (1, 20), (1, 27), (0, 0), (0, 0), (1, 28), (1, 29), (1, 30)]
def zDg (n : Nat) : List zDs := (zD ++ [(.inr (0, n) : zDs)]).set 26 (.inl (0, zflB.set 2 (1, 73)))
theorem zDg_n (n : Nat) : (zDg n).length = 74 := by
  unfold zDg
  rw [List.length_set, List.length_append, zD_n]
  rfl
theorem zDg_o (n j : Nat) (hj : j < 73) (h : j ≠ 26) : (zDg n)[j]? = zD[j]? := by
  unfold zDg
  rw [List.getElem?_set_ne (fun q => h q.symm), List.getElem?_append_left (by rw [zD_n]; exact hj)]
theorem zDg_26 (n : Nat) : (zDg n)[26]? = some (.inl (0, zflB.set 2 (1, 73))) := by rfl
theorem zDg_73 (n : Nat) : (zDg n)[73]? = some (.inr (0, n)) := by rfl
theorem zDchk : ∀ j, j < 73 → j ≠ 26 → j ≠ 27 → (zD[j]?.map (fun d => zrokb 27 d && zn4 d)) = some true := by decide
theorem zir_o {σ : zS} {i j : Nat} {f : Nat → Int32} (h : j ≠ i) : (zir σ i f).1 j = σ.1 j := if_neg h
theorem zgr1_o {σ : zS} {j : Nat} (h : j ≠ 73) : (zgr1 σ).1 j = σ.1 j := by
  unfold zgr1 zcpy
  rw [zir_o h, zir_o h]
theorem zgr1_73 {σ : zS} (hmx : σ.2.2.2 ≤ 1048576) : (zgr1 σ).1 73 = fun k => if k < σ.2.2.2 then σ.1 27 k else 0 := by
  unfold zgr1
  rw [zcpy_at]
  funext k
  show va_cpy (σ.1 27) (fun _ => 0) 0 0 (nI σ.2.2.2).toNatClampNeg k = _
  rw [nI_cl (by omega)]
  unfold va_cpy
  by_cases hk : k < σ.2.2.2
  · rw [if_pos ⟨Nat.zero_le k, by omega⟩, if_pos hk, Nat.sub_zero, Nat.zero_add]
  · rw [if_neg (fun q => hk (by omega)), if_neg hk]
theorem zws_gr {ad : Nat → Nat} {ca : Nat → ClassId} {σ : zS} (hmx : σ.2.2.2 ≤ 1048576) (j : Nat) (q : Nat × va_E) (h : (zws (zput ad 27 (ad 73)) ca zD (zgrow σ))[j]? = some q) : j < 73 ∧ (zws ad ca (zDg (2 * σ.2.2.2)) (zgr1 σ))[if j = 27 then 73 else j]? = some q := by
  have hl : j < 73 := by
    have := (List.getElem?_eq_some_iff.mp h).1
    simpa [zws, zD_n] using this
  refine ⟨hl, ?_⟩
  by_cases h27 : j = 27
  · subst h27
    rw [if_pos rfl, zws_at (zDg_73 _)]
    rw [zws_at DL_27] at h
    rw [← h]
    show some (ad 73, (Sum.inl (ca 0, 2 * σ.2.2.2, Sum.inl ((zgr1 σ).1 73)) : va_E)) = some (zput ad 27 (ad 73) 27, Sum.inl (ca 0, 2 * σ.2.2.2, Sum.inl ((zgrow σ).1 27)))
    rw [zgr1_73 hmx, zput_i]
    rfl
  · rw [if_neg h27]
    by_cases h26 : j = 26
    · subst h26
      rw [zws_at (zDg_26 _)]
      rw [zws_at DL_26] at h
      rw [← h]
      have e26 : (zgr1 σ).1 26 = σ.1 26 := zgr1_o (by decide)
      have f26 : (zgrow σ).1 26 = σ.1 26 := rfl
      show some (ad 26, (Sum.inr (0, [Value.ref (ad 3), Value.ref (ad 20), Value.ref (ad 73), Value.int ((zgr1 σ).1 26 3), Value.int ((zgr1 σ).1 26 4), Value.ref (ad 28), Value.ref (ad 29), Value.ref (ad 30)]) : va_E)) = some (ad 26, Sum.inr (0, [Value.ref (ad 3), Value.ref (ad 20), Value.ref (zput ad 27 (ad 73) 27), Value.int ((zgrow σ).1 26 3), Value.int ((zgrow σ).1 26 4), Value.ref (ad 28), Value.ref (ad 29), Value.ref (ad 30)]))
      rw [e26, f26, zput_i]
    · have hc := zDchk j hl h26 h27
      cases hd : zD[j]? with
      | none => rw [hd] at hc; cases hc
      | some d =>
        rw [hd] at hc
        have hc2 := Option.some.inj hc
        rw [Bool.and_eq_true] at hc2
        rw [zws_at hd] at h
        rw [zws_at ((zDg_o _ j hl h26).trans hd), ← h]
        have h4 : ∀ n, d ≠ .inr (4, n) := by
          rintro n rfl
          exact absurd hc2.2 (by simp [zn4])
        rw [zcell_put hc2.1, zput_n h27, zcell_gr h27 (by cases d with
          | inl q => exact Or.inr ⟨q.1, q.2, rfl⟩
          | inr q => exact Or.inl rfl) h4, zcell_ne (σ := σ) (σ' := zgr1 σ) (zgr1_o (by omega)) rfl rfl]
theorem z_conv {x : zXx} {F pc : Nat} {ls : List (Nat × Value)} {σ : zS} {A B : Nat} (hmx : σ.2.2.2 ≤ 1048576) (hn : x.2.2.2.2.2.2.2.2.2.2.2.2.2.2.1 ≤ zD.length) (hok : ls.all (fun q => zok 73 q.2) = true) (k : zK x F pc ls [] zD (zgrow σ) A B) : zK x F pc ls [] (zDg (2 * σ.2.2.2)) (zgr1 σ) A B := by
  obtain ⟨p, l, e, R, s, m, args, below, meth, c, D, ca, b0, ad0, n0, tg⟩ := x
  intro ad H locs la cells slots h1 h2 h3 h4 h5 h6 h7 h8 h9 h10
  have hls : zrl (zput ad 27 (ad 73)) ls = zrl ad ls := zokn_ls (List.all_eq_true.mpr fun q hq => by
    have h := List.all_eq_true.mp hok q hq
    cases hv : q.2 with
    | ref i =>
      rw [hv] at h
      simp only [zok, Bool.and_eq_true, Bool.not_eq_true', beq_eq_false_iff_ne] at h
      exact bne_iff_ne.mpr h.2
    | _ => rfl)
  have hp : va_P D zcls (zws (zput ad 27 (ad 73)) ca zD (zgrow σ)) H := fun j q hq => h3 _ q (zws_gr hmx j q hq).2
  have hd : va_D (zA b0) (zws (zput ad 27 (ad 73)) ca zD (zgrow σ)) := by
    refine ⟨fun i j p q hi hj hpq => ?_, fun j q hq => h4.2 _ q (zws_gr hmx j q hq).2⟩
    obtain ⟨i1, i2⟩ := zws_gr hmx i p hi
    obtain ⟨j1, j2⟩ := zws_gr hmx j q hj
    have h := h4.1 _ _ p q i2 j2 hpq
    by_cases hi27 : i = 27
    · by_cases hj27 : j = 27
      · omega
      · rw [if_pos hi27, if_neg hj27] at h
        omega
    · by_cases hj27 : j = 27
      · rw [if_neg hi27, if_pos hj27] at h
        omega
      · rw [if_neg hi27, if_neg hj27] at h
        exact h
  exact k (zput ad 27 (ad 73)) H locs la cells slots (fun i hi hf => (zput_n hf).trans (h1 i hi hf)) hn hp hd h5 (by rw [hls]; exact h6) h7 h8 h9 h10
set_option maxRecDepth 100000 in
theorem z_grow {x : zXx} {nL F pc : Nat} {ret : Option FieldType} {ls : List (Nat × Value)} {σ : zS} {A B C : Nat} (hG : zG x cX0_keepChosen nL RX0 ret) (hl0 : (zl0 x).flags = flags0) (hc : zgro σ = true) (hb : zgr (zgrow σ) C) (hk0 : ls[0]? = some (0, .ref 26)) (hok : ls.all (fun q => zok 73 q.2) = true) (hF : 2 ≤ F)
    (d0 : decode cX0_keepChosen pc = .ok (.aload_n 0, 1)) (d1 : decode cX0_keepChosen (pc + 1) = .ok (.aload_n 0, 1)) (d2 : decode cX0_keepChosen (pc + 2) = .ok (.getfield 9, 3)) (d5 : decode cX0_keepChosen (pc + 5) = .ok (.aload_n 0, 1)) (d6 : decode cX0_keepChosen (pc + 6) = .ok (.getfield 37, 3)) (d9 : decode cX0_keepChosen (pc + 9) = .ok (.iconst 2, 1)) (d10 : decode cX0_keepChosen (pc + 10) = .ok (.imul, 1)) (d11 : decode cX0_keepChosen (pc + 11) = .ok (.invokestatic 96, 3)) (d14 : decode cX0_keepChosen (pc + 14) = .ok (.putfield 9, 3))
    (kk : zK x F (pc + 17) ls [] zD (zgrow σ) (A + (C / 64 - (zgrow σ).2.2.2 / 64)) (B + 2 * (C - (zgrow σ).2.2.2))) : zK x F pc ls [] zD σ (A + (C / 64 - σ.2.2.2 / 64)) (B + 2 * (C - σ.2.2.2)) := by
  unfold zgro at hc
  simp only [Bool.and_eq_true, decide_eq_true_eq] at hc
  obtain ⟨c1, c2, c3⟩ := hc
  have hb2 : 2 * σ.2.2.2 ≤ C := hb
  have kk : zK x F (pc + 17) ls [] zD (zgrow σ) (A + (C / 64 - 2 * σ.2.2.2 / 64)) (B + 2 * (C - 2 * σ.2.2.2)) := kk
  refine z_len fun hn => ?_
  refine z_wk (A' := A + (C / 64 - 2 * σ.2.2.2 / 64) + 1) (B' := B + 2 * (C - 2 * σ.2.2.2) + 2 * σ.2.2.2) (by omega) (by omega) ?_
  refine z_aload_n (pc := pc) hG 0 hk0 rfl d0 ?_
  refine z_aload_n (pc := pc + 1) hG 0 hk0 rfl d1 ?_
  refine z_getr (pc := pc + 2) hG zc_X0 inX0 DL_26 2 rfl (by decide) rfl w183 d2 ?_
  refine z_aload_n (pc := pc + 5) hG 0 hk0 rfl d5 ?_
  refine z_geti (pc := pc + 6) hG zc_X0 inX0 DL_26 3 rfl (by decide) rfl w184 d6 ?_
  refine z_iconst (pc := pc + 9) (v := 2) hG (by decide) d9 ?_
  refine z_imul (pc := pc + 10) hG d10 ?_
  have e2 : σ.1 26 3 * 2 = nI (σ.2.2.2 * 2) := by
    rw [c1]
    exact (Int32.ofNat_mul σ.2.2.2 2).symm
  rw [e2]
  have hlt : ¬ nI (σ.2.2.2 * 2) < nI σ.2.2.2 := fun q => by
    have h2 := Int32.lt_iff_toInt_lt.mp q
    rw [nI_int (by omega), nI_int (by omega)] at h2
    omega
  refine z_static (v := some (.ref 73)) (A' := A + (C / 64 - 2 * σ.2.2.2 / 64)) (B' := B + 2 * (C - 2 * σ.2.2.2)) (rest := [.ref 26]) (pc := pc + 11) hG 73 [.ref 27, .int (nI (σ.2.2.2 * 2))] (c_copyOf hl0 c2 c3 (nI_nn (by omega)) (by rw [nI_cl (by omega)]; omega) hlt) zy_J7_copyOf_59c91 w384 w383 d11 rfl hF (Nat.le_of_eq zD_n.symm) (by rw [List.length_append]; omega) rfl hok rfl rfl (Nat.le_of_ble_eq_true rfl) ?_
  refine z_putr (pc := pc + 14) hG zc_X0 inX0 tyX0 tyX0_ok nmX0 (i := 26) (fl := zflB) (q := (1, 73)) rfl 2 (by decide) (by decide) rfl (fun _ => rfl) w183 rfl (fun _ => rfl) (fun _ => rfl) (dl' := zDg (2 * σ.2.2.2)) rfl d14 ?_
  exact z_conv c3 hn hok kk
