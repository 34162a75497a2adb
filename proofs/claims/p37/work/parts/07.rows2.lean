
/-! ===== more rows: switches, throws, copies, statics, texts, two rows swapped ===== -/
theorem zfl {l : Launch} (h : l.flags = flags0) : l.stackTraces = false := by
  unfold Launch.stackTraces
  rw [h]
  decide
theorem vx_at0_in {own cls : String} {ic : Nat} {names : List String} (h : (vx_at0 own ic cls names).all (fun w => lw_tbl.contains w && goodWord w) = true) : ∀ w ∈ vx_at0 own ic cls names, w ∈ zT := zT_sub h
section ZR2
variable {x : zXx} {cc : ByteArray} {nL : Nat} {own : String} {ret : Option FieldType} {F pc : Nat} {ls : List (Nat × Value)} {st : List Value} {dl : List zDs} {σ : zS} {A B : Nat}
theorem z_tabIn {dflt lo hi off : Int} {offs : Array Int} {len tgt : Nat} {v : Int32} (hG : zG x cc nL own ret) (hd : decode cc pc = .ok (.tableswitch dflt lo hi offs, len)) (h1 : ¬ v.toInt < lo) (h2 : ¬ hi < v.toInt) (ho : offs[(v.toInt - lo).toNat]? = some off) (ht : (pc : Int) + off = (tgt : Int))
    (k : zK x F tgt ls st dl σ A B) : zK x F pc ls (.int v :: st) dl σ A B := by
  obtain ⟨p, l, e, R, s, m, args, below, meth, c, D, ca, b0, ad0, n0, tg⟩ := x
  obtain ⟨hx, hb, hml, hown, hts, hret, hlk, htab, hKs, hOs, hfl⟩ := hG
  intro ad H locs la cells slots g1 g2 g3 g4 g5 g6 g7 g8 g9 g10
  exact lv_tableIn hx hb hd h1 h2 ho ht (k ad H locs la cells slots g1 g2 g3 g4 g5 g6 g7 g8 g9 g10)
theorem z_tabOut {dflt lo hi : Int} {offs : Array Int} {len tgt : Nat} {v : Int32} (hG : zG x cc nL own ret) (hd : decode cc pc = .ok (.tableswitch dflt lo hi offs, len)) (h : v.toInt < lo ∨ hi < v.toInt) (ht : (pc : Int) + dflt = (tgt : Int))
    (k : zK x F tgt ls st dl σ A B) : zK x F pc ls (.int v :: st) dl σ A B := by
  obtain ⟨p, l, e, R, s, m, args, below, meth, c, D, ca, b0, ad0, n0, tg⟩ := x
  obtain ⟨hx, hb, hml, hown, hts, hret, hlk, htab, hKs, hOs, hfl⟩ := hG
  intro ad H locs la cells slots g1 g2 g3 g4 g5 g6 g7 g8 g9 g10
  exact lv_tableOut hx hb hd h ht (k ad H locs la cells slots g1 g2 g3 g4 g5 g6 g7 g8 g9 g10)
theorem z_look {dflt off : Int} {ps : Array (Int × Int)} {len tgt : Nat} {v : Int32} (hG : zG x cc nL own ret) (hd : decode cc pc = .ok (.lookupswitch dflt ps, len)) (hp : (ps.toList.zip (ps.toList.drop 1)).all (fun (a, next) => a.1 < next.1) = true) (ho : Op.lookupswitch.offset ps.toList dflt v.toInt = off) (ht : (pc : Int) + off = (tgt : Int))
    (k : zK x F tgt ls st dl σ A B) : zK x F pc ls (.int v :: st) dl σ A B := by
  obtain ⟨p, l, e, R, s, m, args, below, meth, c, D, ca, b0, ad0, n0, tg⟩ := x
  obtain ⟨hx, hb, hml, hown, hts, hret, hlk, htab, hKs, hOs, hfl⟩ := hG
  intro ad H locs la cells slots g1 g2 g3 g4 g5 g6 g7 g8 g9 g10
  exact lv_lookup hx hb hd hp ho ht (k ad H locs la cells slots g1 g2 g3 g4 g5 g6 g7 g8 g9 g10)
theorem ztab_out {v : Int32} {n : Nat} (h : ∀ k : Nat, k ≤ n → ¬ v = Int32.ofNat k) : v.toInt < 0 ∨ (n : Int) < v.toInt := by
  rcases Int.lt_or_le v.toInt 0 with h0 | h0
  · exact .inl h0
  · rcases Int.lt_or_le (n : Int) v.toInt with h2 | h2
    · exact .inr h2
    · exfalso
      have e1 : v = Int32.ofNat v.toInt.toNat := by
        have e2 : Int32.ofInt v.toInt = v := Int32.ofInt_toInt v
        have e3 : (v.toInt.toNat : Int) = v.toInt := Int.toNat_of_nonneg h0
        have e4 : Int32.ofInt (v.toInt.toNat : Int) = Int32.ofNat v.toInt.toNat := rfl
        rw [← e4, e3, e2]
      exact h _ (by omega) e1
theorem z_throw {ik ic : Nat} {cls : String} {names : List String} (hG : zG x cc nL own ret) (hcls : Bundle.fit cls = true) (hnames : ∀ n ∈ names, Bundle.fit n = true) (hk : Cond.classLink own ik cls ∈ zT) (hini : Cond.initialized cls ∈ zT) (hat : ∀ w ∈ (vx_at0 own ic cls names).filter goodWord, w ∈ zT) (hbad : ∀ w ∈ (vx_at0 own ic cls names).filter (fun w => !goodWord w), w ∈ zdcl.map Cond.declares ++ zexs.map (fun E => Cond.castable E E))
    (hgood : ∀ w ∈ Cond.classLink own ik cls :: Cond.initialized cls :: vx_at0 own ic cls names, vx_ot w = true) (hn : names.length ≤ 5) (hW : (st.map fun v => v.category).sum ≤ 8) (hA : 1 ≤ A) (hB : 6 ≤ B) (hF : 8 ≤ F)
    (d0 : decode cc pc = .ok (.new ik, 3)) (d3 : decode cc (pc + 3) = .ok (.dup, 1)) (d4 : decode cc (pc + 4) = .ok (.invokespecial ic, 3)) (d7 : decode cc (pc + 7) = .ok (.athrow, 1)) (htg : ztg x = (.inr cls, dl, σ)) : zK x F pc ls st dl σ A B := by
  obtain ⟨p, l, e, R, s, m, args, below, meth, c, D, ca, b0, ad0, n0, tg⟩ := x
  obtain ⟨hx, hb, hml, hown, hts, hret, hlk, htab, hKs, hOs, hfl⟩ := hG
  intro ad H locs la cells slots h1 h2 h3 h4 h5 h6 h7 h8 h9 h10
  have htg : tg = (.inr cls, dl, σ) := htg
  subst htg
  have hsum : ((st.map (zr ad)).map fun v => v.category).sum ≤ 8 := by
    rw [List.map_map]
    exact Nat.le_trans (Nat.le_of_eq (congrArg List.sum (List.map_congr_left fun v _ => zr_cat ad v))) hW
  refine vx_throw0 hx hb (zfl hfl) (A := zA b0) hown hcls hnames (hts _ hk) (hts _ hini) (vx_hat (fun w hw => hts _ (hat w hw)) hbad hOs.1.2.2.2.2.2.2.2.2.use) hgood hOs.1.2.1 hOs.1.2.2.1 h5 h6.1 d0 d3 d4 d7 (fun z hz => (htab z hz).elim) (by omega) (by omega) (by omega) (by omega) hlk (fun t hal hz hq => ?_) h5.2.2 (by omega) (by omega)
  have hT : ∀ a : Nat, a < s.heap.size → ¬ zA b0 a → t.heap[a]? = s.heap[a]? := fun a ha hna => (hq a (Nat.lt_of_lt_of_le ha h5.1)).trans (h5.2.1 a ha hna)
  refine ⟨⟨ad, rfl, h1, h3.kept (fun k q hk => hq _ (h3 k q hk).lt), va_K.moved hal hKs, h4, ?_⟩, Nat.le_trans h5.1 hz, hT⟩
  exact ((hOs.1.kept (Nat.le_trans h5.1 hz) hT).moved hal).ad h1.hi
theorem z_abs {index : Nat} {v : Int32} (hG : zG x cc nL own ret) (hlink : Cond.methodLink own index Lib.Math.abs.name ∈ zT) (hstat : Cond.static Lib.Math.abs.name ∈ zT) (hini : Cond.initialized "java/lang/Math" ∈ zT) (hcode : Cond.code Lib.Math.abs.name Lib.Math.abs.code 1 (some .int) ∈ zT) (hW : (st.map fun v => v.category).sum ≤ 8) (hd : decode cc pc = .ok (.invokestatic index, 3))
    (kk : zK x F (pc + 3) ls (.int (if 0 ≤ v then v else 0 - v) :: st) dl σ A B) : zK x F pc ls (.int v :: st) dl σ A B := by
  obtain ⟨p, l, e, R, s, m, args, below, meth, c, D, ca, b0, ad0, n0, tg⟩ := x
  obtain ⟨hx, hb, hml, hown, hts, hret, hlk, htab, hKs, hOs, hfl⟩ := hG
  intro ad H locs la cells slots h1 h2 h3 h4 h5 h6 h7 h8 h9 h10
  have hsum : ((st.map (zr ad)).map fun v => v.category).sum ≤ 8 := by
    rw [List.map_map]
    exact Nat.le_trans (Nat.le_of_eq (congrArg List.sum (List.map_congr_left fun v _ => zr_cat ad v))) hW
  exact va_mabs hx hb h6.1.symm hown (hts _ hlink) (hts _ hstat) (hts _ hini) (hts _ hcode) (by omega) (by omega) (by omega) (by omega) hd (kk ad H locs la cells slots h1 h2 h3 h4 h5 h6 h7 h8 h9 h10)
/-- an element of a table: getstatic, the index out of a local, laload -/
theorem z_with {index i k : Nat} {v : Int32} (hG : zG x cc nL own ret) (hlink : Cond.fieldLink own index "EditMender$Family" "WITH" "[J" ∈ zT) (hk : ls[k]? = some (i, .int v)) (hin : vp_in v 6) (d0 : decode cc pc = .ok (.getstatic index, 3)) (d3 : decode cc (pc + 3) = .ok (.iload i, 2)) (d5 : decode cc (pc + 5) = .ok (.laload, 1))
    (kk : zK x F (pc + 6) ls (.long (zwith.getD v.toNatClampNeg 0) :: st) dl σ A B) : zK x F pc ls st dl σ A B := by
  obtain ⟨p, l, e, R, s, m, args, below, meth, c, D, ca, b0, ad0, n0, tg⟩ := x
  obtain ⟨hx, hb, hml, hown, hts, hret, hlk, htab, hKs, hOs, hfl⟩ := hG
  intro ad H locs la cells slots h1 h2 h3 h4 h5 h6 h7 h8 h9 h10
  obtain ⟨t, hz, ht⟩ := hOs.1.2.2.2.1
  refine va_gets hx hb hz h5 hown (hts _ hlink) (fun _ q => q) d0 ?_
  refine lv_iload hx hb d3 (lv_at h6 k (zrl_at hk)) ?_
  exact va_tl hx hb ht h5 hin rfl d5 (kk ad H locs la cells slots h1 h2 h3 h4 h5 h6 h7 h8 h9 h10)
def zcpo (sp dp n : Int32) (n0 n1 : Nat) : Bool := decide (¬ sp < 0 ∧ ¬ dp < 0 ∧ ¬ n < 0 ∧ sp.toNatClampNeg + n.toNatClampNeg ≤ n0 ∧ dp.toNatClampNeg + n.toNatClampNeg ≤ n1)
def zcpb (f : Nat → Int32) (sp n : Int32) : Bool := (List.range n.toNatClampNeg).all (fun i => fits .byte (.int (f (sp.toNatClampNeg + i))))
def zcpy (σ : zS) (i j : Nat) (sp dp n : Int32) : zS := zir σ j (va_cpy (σ.1 i) (σ.1 j) sp.toNatClampNeg dp.toNatClampNeg n.toNatClampNeg)
theorem zcpy_at {σ : zS} {i j : Nat} {sp dp n : Int32} : (zcpy σ i j sp dp n).1 j = va_cpy (σ.1 i) (σ.1 j) sp.toNatClampNeg dp.toNatClampNeg n.toNatClampNeg := if_pos rfl
theorem z_copyI {index i j n0 n1 : Nat} {sp dp n : Int32} (hG : zG x cc nL own ret) (hi : dl[i]? = some (.inr (0, n0))) (hj : dl[j]? = some (.inr (0, n1))) (hlink : Cond.methodLink own index arraycopyName ∈ zT) (hnat : Cond.native arraycopyName ∈ zT) (hstat : Cond.static arraycopyName ∈ zT) (hini : Cond.initialized "java/lang/System" ∈ zT) (hW : (st.map fun v => v.category).sum ≤ 8) (hc : zcpo sp dp n n0 n1 = true) (hd : decode cc pc = .ok (.invokestatic index, 3))
    (kk : zK x F (pc + 3) ls st dl (zcpy σ i j sp dp n) A B) : zK x F pc ls (.int n :: .int dp :: .ref j :: .int sp :: .ref i :: st) dl σ A B := by
  obtain ⟨p, l, e, R, s, m, args, below, meth, c, D, ca, b0, ad0, n0, tg⟩ := x
  obtain ⟨hx, hb, hml, hown, hts, hret, hlk, htab, hKs, hOs, hfl⟩ := hG
  intro ad H locs la cells slots h1 h2 h3 h4 h5 h6 h7 h8 h9 h10
  have hsum : ((st.map (zr ad)).map fun v => v.category).sum ≤ 8 := by
    rw [List.map_map]
    exact Nat.le_trans (Nat.le_of_eq (congrArg List.sum (List.map_congr_left fun v _ => zr_cat ad v))) hW
  obtain ⟨c1, c2, c3, c4, c5⟩ := of_decide_eq_true hc
  have hnf : nativeFrameWords "java/lang/System" "arraycopy" 5 ≤ 60 := by decide
  refine va_copyi hx hb h6.1.symm hown (hts _ hlink) (hts _ hnat) (hts _ hstat) (hts _ hini) hKs h3 h4 h5 i j 0 0 (zws_at hi) (zws_at hj) (ty := .int) rfl rfl rfl c1 c2 c3 c4 c5 (fun _ _ => rfl) (by omega) (by omega) hd (fun H1 locs1 g1 g2 g3 => ?_)
  have hz := zws_set (ad := ad) (ca := ca) (σ := σ) (σ' := zcpy σ i j sp dp n) hj (e := .inl (ca 0, n1, .inl (va_cpy (σ.1 i) (σ.1 j) sp.toNatClampNeg dp.toNatClampNeg n.toNatClampNeg))) (by show (.inl (ca 0, n1, .inl ((zcpy σ i j sp dp n).1 j)) : va_E) = _; rw [zcpy_at]) (fun q hq => if_neg hq) (fun _ _ => rfl) rfl
  rw [hz] at g1 g2
  exact kk ad H1 locs1 la cells slots h1 h2 g1 g2 g3 h6 h7 h8 h9 h10
theorem z_copyB {index i j n0 n1 : Nat} {sp dp n : Int32} (hG : zG x cc nL own ret) (hi : dl[i]? = some (.inr (1, n0))) (hj : dl[j]? = some (.inr (1, n1))) (hlink : Cond.methodLink own index arraycopyName ∈ zT) (hnat : Cond.native arraycopyName ∈ zT) (hstat : Cond.static arraycopyName ∈ zT) (hini : Cond.initialized "java/lang/System" ∈ zT) (hW : (st.map fun v => v.category).sum ≤ 8) (hc : zcpo sp dp n n0 n1 = true) (hfb : zcpb (σ.1 i) sp n = true) (hd : decode cc pc = .ok (.invokestatic index, 3))
    (kk : zK x F (pc + 3) ls st dl (zcpy σ i j sp dp n) A B) : zK x F pc ls (.int n :: .int dp :: .ref j :: .int sp :: .ref i :: st) dl σ A B := by
  obtain ⟨p, l, e, R, s, m, args, below, meth, c, D, ca, b0, ad0, n0, tg⟩ := x
  obtain ⟨hx, hb, hml, hown, hts, hret, hlk, htab, hKs, hOs, hfl⟩ := hG
  intro ad H locs la cells slots h1 h2 h3 h4 h5 h6 h7 h8 h9 h10
  have hsum : ((st.map (zr ad)).map fun v => v.category).sum ≤ 8 := by
    rw [List.map_map]
    exact Nat.le_trans (Nat.le_of_eq (congrArg List.sum (List.map_congr_left fun v _ => zr_cat ad v))) hW
  obtain ⟨c1, c2, c3, c4, c5⟩ := of_decide_eq_true hc
  have hnf : nativeFrameWords "java/lang/System" "arraycopy" 5 ≤ 60 := by decide
  refine va_copyi hx hb h6.1.symm hown (hts _ hlink) (hts _ hnat) (hts _ hstat) (hts _ hini) hKs h3 h4 h5 i j 1 1 (zws_at hi) (zws_at hj) (ty := .byte) rfl rfl rfl c1 c2 c3 c4 c5 (fun k hk => List.all_eq_true.mp hfb k (List.mem_range.mpr hk)) (by omega) (by omega) hd (fun H1 locs1 g1 g2 g3 => ?_)
  have hz := zws_set (ad := ad) (ca := ca) (σ := σ) (σ' := zcpy σ i j sp dp n) hj (e := .inl (ca 1, n1, .inl (va_cpy (σ.1 i) (σ.1 j) sp.toNatClampNeg dp.toNatClampNeg n.toNatClampNeg))) (by show (.inl (ca 1, n1, .inl ((zcpy σ i j sp dp n).1 j)) : va_E) = _; rw [zcpy_at]) (fun q hq => if_neg hq) (fun _ _ => rfl) rfl
  rw [hz] at g1 g2
  exact kk ad H1 locs1 la cells slots h1 h2 g1 g2 g3 h6 h7 h8 h9 h10
/-! texts -/
def zsq (q : Nat) : Bool := (decide (900 ≤ q) && decide (q < 909)) || (decide (910 ≤ q) && decide (q < 919))
def zsj (q : Nat) : Nat := (q - 900) % 10
theorem zOx.str {b0 : Nat} {ad : Nat → Nat} {U : State} {H : Heap} (h : zOx b0 ad U H) {q : Nat} (hq : zsq q = true) : va_O "java/lang/String" (ad q) (zA b0) U H ∧ va_OF "java/lang/String" "coder" "B" (.int 0) (ad q) (zA b0) U H ∧ va_OF "java/lang/String" "value" "[B" (.ref (ad (q + 20))) (ad q) (zA b0) U H ∧ va_T .byte (ad (q + 20)) (slen.getD (zsj q) 0) (fun j => .int ((sbyt.getD (zsj q) []).getD j 0)) (zA b0) U H := by
  unfold zsq at hq
  rw [Bool.or_eq_true, Bool.and_eq_true, Bool.and_eq_true, decide_eq_true_eq, decide_eq_true_eq, decide_eq_true_eq, decide_eq_true_eq] at hq
  rcases hq with hq | hq
  · have h3 := h.2.1.1 (q - 900) (by omega)
    have e1 : 900 + (q - 900) = q := by omega
    have e2 : 920 + (q - 900) = q + 20 := by omega
    have e3 : zsj q = q - 900 := by unfold zsj; omega
    rw [e3]
    simp only [e1, e2] at h3
    exact h3
  · have h3 := h.2.2.1.1 (q - 910) (by omega)
    have e1 : 910 + (q - 910) = q := by omega
    have e2 : 930 + (q - 910) = q + 20 := by omega
    have e3 : zsj q = q - 910 := by unfold zsj; omega
    rw [e3]
    simp only [e1, e2] at h3
    exact h3
theorem z_lds {index q : Nat} {tx : String} (hG : zG x cc nL own ret) (hm : (own, index, tx, q) ∈ zrefs) (hd : decode cc pc = .ok (.ldc index, 2))
    (kk : zK x F (pc + 2) ls (.ref q :: st) dl σ A B) : zK x F pc ls st dl σ A B := by
  obtain ⟨p, l, e, R, s, m, args, below, meth, c, D, ca, b0, ad0, n0, tg⟩ := x
  obtain ⟨hx, hb, hml, hown, hts, hret, hlk, htab, hKs, hOs, hfl⟩ := hG
  intro ad H locs la cells slots h1 h2 h3 h4 h5 h6 h7 h8 h9 h10
  exact va_ldcS hx hb hown ((hOs.2.ad h1.hi) _ hm) hd (kk ad H locs la cells slots h1 h2 h3 h4 h5 h6 h7 h8 h9 h10)
theorem z_sval {index q : Nat} (hG : zG x cc nL own ret) (hq : zsq q = true) (hlink : Cond.fieldLink own index "java/lang/String" "value" "[B" ∈ zT) (hd : decode cc pc = .ok (.getfield index, 3))
    (kk : zK x F (pc + 3) ls (.ref (q + 20) :: st) dl σ A B) : zK x F pc ls (.ref q :: st) dl σ A B := by
  obtain ⟨p, l, e, R, s, m, args, below, meth, c, D, ca, b0, ad0, n0, tg⟩ := x
  obtain ⟨hx, hb, hml, hown, hts, hret, hlk, htab, hKs, hOs, hfl⟩ := hG
  intro ad H locs la cells slots h1 h2 h3 h4 h5 h6 h7 h8 h9 h10
  exact vk_getf hx hb ((hOs.1.2.2.2.ad h1.hi).str hq).2.2.1 h5 hown (hts _ hlink) (fun _ q => q) hd (kk ad H locs la cells slots h1 h2 h3 h4 h5 h6 h7 h8 h9 h10)
theorem z_scod {index q : Nat} (hG : zG x cc nL own ret) (hq : zsq q = true) (hlink : Cond.fieldLink own index "java/lang/String" "coder" "B" ∈ zT) (hd : decode cc pc = .ok (.getfield index, 3))
    (kk : zK x F (pc + 3) ls (.int 0 :: st) dl σ A B) : zK x F pc ls (.ref q :: st) dl σ A B := by
  obtain ⟨p, l, e, R, s, m, args, below, meth, c, D, ca, b0, ad0, n0, tg⟩ := x
  obtain ⟨hx, hb, hml, hown, hts, hret, hlk, htab, hKs, hOs, hfl⟩ := hG
  intro ad H locs la cells slots h1 h2 h3 h4 h5 h6 h7 h8 h9 h10
  exact vk_getf hx hb ((hOs.1.2.2.2.ad h1.hi).str hq).2.1 h5 hown (hts _ hlink) (fun _ q => q) hd (kk ad H locs la cells slots h1 h2 h3 h4 h5 h6 h7 h8 h9 h10)
theorem z_cstr {index : Nat} (hG : zG x cc nL own ret) (hlink : Cond.fieldLink own index "java/lang/String" "COMPACT_STRINGS" "Z" ∈ zT) (hd : decode cc pc = .ok (.getstatic index, 3))
    (kk : zK x F (pc + 3) ls (.int 1 :: st) dl σ A B) : zK x F pc ls st dl σ A B := by
  obtain ⟨p, l, e, R, s, m, args, below, meth, c, D, ca, b0, ad0, n0, tg⟩ := x
  obtain ⟨hx, hb, hml, hown, hts, hret, hlk, htab, hKs, hOs, hfl⟩ := hG
  intro ad H locs la cells slots h1 h2 h3 h4 h5 h6 h7 h8 h9 h10
  exact va_gets hx hb hOs.1.2.2.2.2.2.2.1 h5 hown (hts _ hlink) (fun _ q => q) hd (kk ad H locs la cells slots h1 h2 h3 h4 h5 h6 h7 h8 h9 h10)
theorem z_fmt {index : Nat} (hG : zG x cc nL own ret) (hlink : Cond.fieldLink own index "jdk/internal/util/Preconditions" "SIOOBE_FORMATTER" "Ljava/util/function/BiFunction;" ∈ zT) (hd : decode cc pc = .ok (.getstatic index, 3))
    (k1 : zK x F (pc + 3) ls (.null :: st) dl σ A B) (k2 : zK x F (pc + 3) ls (.ref 940 :: st) dl σ A B) : zK x F pc ls st dl σ A B := by
  obtain ⟨p, l, e, R, s, m, args, below, meth, c, D, ca, b0, ad0, n0, tg⟩ := x
  obtain ⟨hx, hb, hml, hown, hts, hret, hlk, htab, hKs, hOs, hfl⟩ := hG
  intro ad H locs la cells slots h1 h2 h3 h4 h5 h6 h7 h8 h9 h10
  rcases (hOs.1.2.2.2.ad h1.hi).2.2.2.2.1 with hz | hz
  · exact va_gets hx hb hz h5 hown (hts _ hlink) (fun _ q => q) hd (k1 ad H locs la cells slots h1 h2 h3 h4 h5 h6 h7 h8 h9 h10)
  · exact va_gets hx hb hz h5 hown (hts _ hlink) (fun _ q => q) hd (k2 ad H locs la cells slots h1 h2 h3 h4 h5 h6 h7 h8 h9 h10)
theorem z_slen {q q2 : Nat} (hG : zG x cc nL own ret) (hq : zsq q = true) (h2 : q + 20 = q2) (hd : decode cc pc = .ok (.arraylength, 1))
    (kk : zK x F (pc + 1) ls (.int (nI (slen.getD (zsj q) 0)) :: st) dl σ A B) : zK x F pc ls (.ref q2 :: st) dl σ A B := by
  subst h2
  obtain ⟨p, l, e, R, s, m, args, below, meth, c, D, ca, b0, ad0, n0, tg⟩ := x
  obtain ⟨hx, hb, hml, hown, hts, hret, hlk, htab, hKs, hOs, hfl⟩ := hG
  intro ad H locs la cells slots h1 h2 h3 h4 h5 h6 h7 h8 h9 h10
  exact va_tlen hx hb ((hOs.1.2.2.2.ad h1.hi).str hq).2.2.2 h5 rfl hd (kk ad H locs la cells slots h1 h2 h3 h4 h5 h6 h7 h8 h9 h10)
theorem z_sbyt {q q2 : Nat} {v : Int32} (hG : zG x cc nL own ret) (hq : zsq q = true) (h2 : q + 20 = q2) (hin : vp_in v (slen.getD (zsj q) 0)) (hd : decode cc pc = .ok (.baload, 1))
    (kk : zK x F (pc + 1) ls (.int ((sbyt.getD (zsj q) []).getD v.toNatClampNeg 0) :: st) dl σ A B) : zK x F pc ls (.int v :: .ref q2 :: st) dl σ A B := by
  subst h2
  obtain ⟨p, l, e, R, s, m, args, below, meth, c, D, ca, b0, ad0, n0, tg⟩ := x
  obtain ⟨hx, hb, hml, hown, hts, hret, hlk, htab, hKs, hOs, hfl⟩ := hG
  intro ad H locs la cells slots h1 h2 h3 h4 h5 h6 h7 h8 h9 h10
  exact va_tb hx hb ((hOs.1.2.2.2.ad h1.hi).str hq).2.2.2 h5 hin rfl hd (kk ad H locs la cells slots h1 h2 h3 h4 h5 h6 h7 h8 h9 h10)
def znc (v : Int32) : Bool := decide (narrow .char (.int v) = .int v)
theorem znc_n {v : Int32} (h : znc v = true) : narrow .char (.int v) = .int v := of_decide_eq_true h
def znby (v : Int32) : Bool := decide (narrow .byte (.int v) = .int v)
theorem znby_n {v : Int32} (h : znby v = true) : narrow .byte (.int v) = .int v := of_decide_eq_true h
end ZR2
section ZCS
variable {x : zXx} {cc bytes : ByteArray} {nL maxL : Nat} {own : String} {ret ret' : Option FieldType} {F fr pc : Nat} {ls : List (Nat × Value)} {st : List Value} {σ σ' : zS} {A B A' B' nc ns n index : Nat} {y : MethodName}
theorem z_cvSI {v : Int32} {i : Nat} (hG : zG x cc nL own ret) (As rest : List Value) (hq : zsq i = true) (hC : zC (zl0 x) y bytes maxL ret' fr nc ns (.ref i :: As) zD σ (.inl (some (.int v)), zD, σ')) (hy : zY y bytes maxL ret' n) (hs : Cond.instanceMethod y ∈ zT ∧ Cond.selects "java/lang/String" y y ∈ zT) (hl : Cond.methodLink own index y ∈ zT) (hd : decode cc pc = .ok (.invokevirtual index, 3)) (hn : As.length = n) (hF : fr + 1 ≤ F) (hA : A = A' + nc) (hB : B = B' + ns)
    (hok : (rest.all (zok 73) && ls.all (fun q => zok 73 q.2)) = true) (hW : (rest.map fun v => v.category).sum ≤ 8) (hst : st = As.reverse ++ .ref i :: rest) (kk : zK x F (pc + 3) ls (.int v :: rest) zD σ' A' B') : zK x F pc ls st zD σ A B := by
  subst hst
  rw [Bool.and_eq_true] at hok
  refine z_after (v := some (.int v)) (rest := rest) hG (Nat.le_of_eq zD_n.symm) (Nat.le_refl _) hok.1 hok.2 hA hB kk ?_
  obtain ⟨p, l, e, R, s, m, args, below, meth, c, D, ca, b0, ad0, n0, tg⟩ := x
  obtain ⟨hx, hb, hml, hown, hts, hret, hlk, htab, hKs, hOs, hfl⟩ := hG
  intro ad H locs la cells slots h1 h3 h4 h5 h7 h8 h6 h9 h10
  have hrec : ∃ cell : Cell, H[ad i]? = some cell ∧ cell.vm.isStatics = false ∧ s.vm.findClass "java/lang/String" = some cell.cls := by
    obtain ⟨cell, q1, q2, q3, q4⟩ := ((hOs.1.2.2.2.ad h1.hi).str hq).1
    exact ⟨cell, (h5.2.1 _ (Array.getElem?_eq_some_iff.mp q1).1 q4).trans q1, q2, q3⟩
  exact ⟨_, vx_runV (C := "java/lang/String") (As := As.map (zr ad)) ⟨hx, hb, rfl, hown, hts⟩ (hC D ca b0 ad) ⟨zC_callB hts hy hl hF h9 h10, hts _ hs.1, hts _ hs.2⟩ ⟨zC_blind, hrec, fun U hU hW => ⟨rfl, ⟨by rw [hU]; exact h3, va_K.moved hW.alike hKs, h4, by rw [hU]; exact ((hOs.1.kept h5.1 h5.2.1).moved hW.alike).ad h1.hi⟩, (hOs.2.warm hW).ad h1.hi⟩⟩ rfl (by rw [List.length_map]; exact hn) h6 (by rw [List.map_append, List.map_reverse]; rfl) (lv_room (by rw [List.map_map]; exact Nat.le_trans (Nat.le_of_eq (congrArg List.sum (List.map_congr_left fun v _ => zr_cat ad v))) hW)) hd ⟨h7, h8⟩⟩
end ZCS
/-! two rows of numbers change places -/
def znsw : zDs → Bool
  | .inl (_, fl) => fl.all (fun q => !(q.1 == 2))
  | _ => true
theorem zcell_sw {ad : Nat → Nat} {ca : Nat → ClassId} {σ : zS} {j : Nat} {d : zDs} (h : znsw d = true) : zcell ad ca (zsw σ) j d = zcell ad ca σ j d := by
  rcases d with ⟨ci, fl⟩ | ⟨t, n⟩
  · show (Sum.inr (ci, _) : va_E) = Sum.inr (ci, _)
    congr 2
    apply List.ext_getElem?
    intro k
    simp only [List.getElem?_mapIdx]
    cases hk : fl[k]? with
    | none => rfl
    | some q =>
      have h2 := List.all_eq_true.mp h q (List.mem_of_getElem? hk)
      obtain ⟨a, b⟩ := q
      rcases a with _ | _ | _ | a
      · rfl
      · rfl
      · cases h2
      · rfl
  · rcases t with _ | _ | _ | _ | _ | t <;> rfl
theorem zsp_sw {σ : zS} (h : σ.2.2.1 ≤ 1) : zsp (zsw σ) 0 = zsp σ 1 ∧ zsp (zsw σ) 1 = zsp σ 0 := by
  unfold zsp zsw
  generalize σ.2.2.1 = f at h
  have hf : f = 0 ∨ f = 1 := by omega
  rcases hf with rfl | rfl <;> exact ⟨rfl, rfl⟩
theorem z_swap {x : zXx} {cc : ByteArray} {nL : Nat} {own : String} {ret : Option FieldType} {F pc : Nat} {ls : List (Nat × Value)} {st : List Value} {σ : zS} {A B k0 k2 i4 i5 : Nat} (hG : zG x cc nL own ret) (hk0 : ls[k0]? = some (0, .ref 20)) (hk2 : ls[k2]? = some (2, .ref (zsp σ 0))) (hsw : decide (σ.2.2.1 ≤ 1) = true)
    (hl4 : Cond.fieldLink own i4 "EditMender$Logic" "tally" "[I" ∈ zT) (hl5 : Cond.fieldLink own i5 "EditMender$Logic" "nextTally" "[I" ∈ zT) (hin : ∀ w ∈ u_ws RX5 TX5 7, w ∈ zT)
    (d0 : decode cc pc = .ok (.aload_n 0, 1)) (d1 : decode cc (pc + 1) = .ok (.aload_n 0, 1)) (d2 : decode cc (pc + 2) = .ok (.getfield i5, 3)) (d5 : decode cc (pc + 5) = .ok (.putfield i4, 3)) (d8 : decode cc (pc + 8) = .ok (.aload_n 0, 1)) (d9 : decode cc (pc + 9) = .ok (.aload_n 2, 1)) (d10 : decode cc (pc + 10) = .ok (.putfield i5, 3))
    (kk : zK x F (pc + 13) ls st zD (zsw σ) A B) : zK x F pc ls st zD σ A B := by
  obtain ⟨p, l, e, R, s, m, args, below, meth, c, D, ca, b0, ad0, n0, tg⟩ := x
  obtain ⟨hx, hb, hml, hown, hts, hret, hlk, htab, hKs, hOs, hfl⟩ := hG
  intro ad H locs la cells slots h1 h2 h3 h4 h5 h6 h7 h8 h9 h10
  have hsw' := zsp_sw (of_decide_eq_true hsw)
  have hi : zD[20]? = some (.inl (3, [(1, 3), (1, 21), (1, 22), (1, 23), (2, 0), (2, 1), (0, 0)])) := DL_20
  have hc : zcls[3]? = some (RX5, TX5, 7) := zc_X5
  refine lv_aload_n hx hb d0 rfl (lv_at h6 k0 (zrl_at hk0)) ?_
  refine lv_aload_n hx hb d1 rfl (lv_at h6 k0 (zrl_at hk0)) ?_
  refine va_get (D := D) (ci := 3) (v := .ref (ad (zsp σ 1))) (C := RX5) (T := TX5) (N := 7) hx hb hts hin hown hKs h3 20 (zws_at hi) hc 5 (by decide) (hts _ hl5) (fun _ h9 => h9) rfl d2 ?_
  refine va_put (D := D) (ci := 3) (v := .ref (ad (zsp σ 1))) (ty := tyX5 4) (C := RX5) (T := TX5) (N := 7) hx hb hts hin tyX5 tyX5_ok nmX5 hown hKs h3 h4 h5 20 (zws_at hi) hc 4 (by decide) (hts _ hl4) (fun _ h9 => h9) rfl rfl rfl rfl (by rw [List.length_mapIdx]; decide) d5 (fun H1 locs1 g1 g2 g3 => ?_)
  have hlen : 20 < (zws ad ca zD σ).length := (List.getElem?_eq_some_iff.mp (zws_at (ad := ad) (ca := ca) (σ := σ) hi)).1
  refine lv_aload_n hx hb d8 rfl (lv_at h6 k0 (zrl_at hk0)) ?_
  refine lv_aload_n hx hb d9 rfl (lv_at h6 k2 (zrl_at hk2)) ?_
  refine va_put (D := D) (ci := 3) (v := .ref (ad (zsp σ 0))) (ty := tyX5 5) (C := RX5) (T := TX5) (N := 7) hx hb hts hin tyX5 tyX5_ok nmX5 hown hKs g1 g2 g3 20 (List.getElem?_set_self hlen) hc 5 (by decide) (hts _ hl5) (fun _ h9 => h9) rfl rfl rfl rfl (by rw [List.length_set, List.length_mapIdx]; decide) d10 (fun H2 locs2 f1 f2 f3 => ?_)
  have hz : ((zws ad ca zD σ).set 20 (ad 20, .inr (3, ([(1, 3), (1, 21), (1, 22), (1, 23), (2, 0), (2, 1), (0, 0)].mapIdx (fun k q => zfv ad σ 20 k q)).set 4 (.ref (ad (zsp σ 1)))))).set 20 (ad 20, .inr (3, (([(1, 3), (1, 21), (1, 22), (1, 23), (2, 0), (2, 1), (0, 0)].mapIdx (fun k q => zfv ad σ 20 k q)).set 4 (.ref (ad (zsp σ 1)))).set 5 (.ref (ad (zsp σ 0))))) = zws ad ca zD (zsw σ) := by
    rw [List.set_set]
    apply List.ext_getElem?
    intro j
    rw [List.getElem?_set]
    by_cases hj : 20 = j
    · subst hj
      rw [if_pos rfl, if_pos hlen, zws_at hi]
      show some (ad 20, (Sum.inr (3, _) : va_E)) = some (ad 20, Sum.inr (3, [_, _, _, _, Value.ref (ad (zsp (zsw σ) 0)), Value.ref (ad (zsp (zsw σ) 1)), _]))
      rw [hsw'.1, hsw'.2]
      rfl
    · rw [if_neg hj]
      simp only [zws, List.getElem?_mapIdx]
      cases hd : zD[j]? with
      | none => rfl
      | some d =>
        have hn : ∀ j, j < 73 → 20 ≠ j → (zD[j]?.map znsw) = some true := by decide
        have hjl : j < 73 := by
          have := (List.getElem?_eq_some_iff.mp hd).1
          rw [zD_n] at this
          exact this
        have h9 := hn j hjl hj
        rw [hd] at h9
        show some (ad j, zcell ad ca σ j d) = some (ad j, zcell ad ca (zsw σ) j d)
        rw [zcell_sw (Option.some.inj h9)]
  rw [hz] at f1 f2
  exact kk ad H2 locs2 la cells slots h1 h2 f1 f2 f3 h6 h7 h8 h9 h10

