/-! ===== the builder's rows: bytes that grow, copies of bytes, private and inherited methods ===== -/
abbrev zLn (σ : zS) (j : Nat) : Nat := (σ.2.1 j 0).toNatClampNeg
section ZB
variable {x : zXx} {cc : ByteArray} {nL : Nat} {own : String} {ret : Option FieldType} {F pc : Nat} {ls : List (Nat × Value)} {st : List Value} {dl dl' : List zDs} {σ : zS} {A B : Nat}
theorem z_bald5 {i n : Nat} {a : Int32} (hG : zG x cc nL own ret) (hi : dl[i]? = some (.inr (5, n))) (hin : vp_in a (zLn σ i)) (hd : decode cc pc = .ok (.baload, 1))
    (kk : zK x F (pc + 1) ls (.int (σ.1 i a.toNatClampNeg) :: st) dl σ A B) : zK x F pc ls (.int a :: .ref i :: st) dl σ A B := by
  obtain ⟨p, l, e, R, s, m, args, below, meth, c, D, ca, b0, ad0, n0, tg⟩ := x
  obtain ⟨hx, hb, hml, hown, hts, hret, hlk, htab, hKs, hOs, hfl⟩ := hG
  intro ad H locs la cells slots h1 h2 h3 h4 h5 h6 h7 h8 h9 h10
  exact va_bald (D := D) hx hb hKs h3 i 1 (zws_at hi) rfl hin hd (kk ad H locs la cells slots h1 h2 h3 h4 h5 h6 h7 h8 h9 h10)
theorem z_alen5 {i n : Nat} (hG : zG x cc nL own ret) (hi : dl[i]? = some (.inr (5, n))) (hd : decode cc pc = .ok (.arraylength, 1))
    (kk : zK x F (pc + 1) ls (.int (nI (zLn σ i)) :: st) dl σ A B) : zK x F pc ls (.ref i :: st) dl σ A B := by
  obtain ⟨p, l, e, R, s, m, args, below, meth, c, D, ca, b0, ad0, n0, tg⟩ := x
  obtain ⟨hx, hb, hml, hown, hts, hret, hlk, htab, hKs, hOs, hfl⟩ := hG
  intro ad H locs la cells slots h1 h2 h3 h4 h5 h6 h7 h8 h9 h10
  exact va_alen (D := D) hx hb hKs h3 i 1 (zws_at hi) (ty := .byte) rfl rfl hd (kk ad H locs la cells slots h1 h2 h3 h4 h5 h6 h7 h8 h9 h10)
theorem z_alen1 {i n : Nat} (hG : zG x cc nL own ret) (hi : dl[i]? = some (.inr (1, n))) (hd : decode cc pc = .ok (.arraylength, 1))
    (kk : zK x F (pc + 1) ls (.int (nI n) :: st) dl σ A B) : zK x F pc ls (.ref i :: st) dl σ A B := by
  obtain ⟨p, l, e, R, s, m, args, below, meth, c, D, ca, b0, ad0, n0, tg⟩ := x
  obtain ⟨hx, hb, hml, hown, hts, hret, hlk, htab, hKs, hOs, hfl⟩ := hG
  intro ad H locs la cells slots h1 h2 h3 h4 h5 h6 h7 h8 h9 h10
  exact va_alen (D := D) hx hb hKs h3 i 1 (zws_at hi) (ty := .byte) rfl rfl hd (kk ad H locs la cells slots h1 h2 h3 h4 h5 h6 h7 h8 h9 h10)
theorem z_alen6 {i n : Nat} (hG : zG x cc nL own ret) (hi : dl[i]? = some (.inr (6, n))) (hd : decode cc pc = .ok (.arraylength, 1))
    (kk : zK x F (pc + 1) ls (.int (nI (zLn σ i)) :: st) dl σ A B) : zK x F pc ls (.ref i :: st) dl σ A B := by
  obtain ⟨p, l, e, R, s, m, args, below, meth, c, D, ca, b0, ad0, n0, tg⟩ := x
  obtain ⟨hx, hb, hml, hown, hts, hret, hlk, htab, hKs, hOs, hfl⟩ := hG
  intro ad H locs la cells slots h1 h2 h3 h4 h5 h6 h7 h8 h9 h10
  exact va_alen (D := D) hx hb hKs h3 i 0 (zws_at hi) (ty := .int) rfl rfl hd (kk ad H locs la cells slots h1 h2 h3 h4 h5 h6 h7 h8 h9 h10)
theorem z_bast5 {i n : Nat} {a v : Int32} (hG : zG x cc nL own ret) (hi : dl[i]? = some (.inr (5, n))) (hin : vp_in a (zLn σ i)) (hd : decode cc pc = .ok (.bastore, 1))
    (kk : zK x F (pc + 1) ls st dl (zi σ i a.toNatClampNeg (vp_nar .byte v)) A B) : zK x F pc ls (.int v :: .int a :: .ref i :: st) dl σ A B := by
  obtain ⟨p, l, e, R, s, m, args, below, meth, c, D, ca, b0, ad0, n0, tg⟩ := x
  obtain ⟨hx, hb, hml, hown, hts, hret, hlk, htab, hKs, hOs, hfl⟩ := hG
  intro ad H locs la cells slots h1 h2 h3 h4 h5 h6 h7 h8 h9 h10
  refine va_bast (D := D) hx hb hKs h3 h4 h5 i 1 (zws_at hi) rfl hin hd (fun H1 locs1 g1 g2 g3 => ?_)
  rw [zws_set (σ := σ) (σ' := zi σ i a.toNatClampNeg (vp_nar .byte v)) hi (by show (.inl (ca 1, zLn σ i, .inl ((zi σ i a.toNatClampNeg (vp_nar .byte v)).1 i)) : va_E) = _; rw [zupd]) (fun j hj => by funext q; exact if_neg (fun z => hj z.1)) (fun j hj => rfl) rfl] at g1 g2
  exact kk ad H1 locs1 la cells slots h1 h2 g1 g2 g3 h6 h7 h8 h9 h10
theorem z_ald6 {i n : Nat} {a : Int32} (hG : zG x cc nL own ret) (hi : dl[i]? = some (.inr (6, n))) (hin : vp_in a (zLn σ i)) (hd : decode cc pc = .ok (.iaload, 1))
    (kk : zK x F (pc + 1) ls (.int (σ.1 i a.toNatClampNeg) :: st) dl σ A B) : zK x F pc ls (.int a :: .ref i :: st) dl σ A B := by
  obtain ⟨p, l, e, R, s, m, args, below, meth, c, D, ca, b0, ad0, n0, tg⟩ := x
  obtain ⟨hx, hb, hml, hown, hts, hret, hlk, htab, hKs, hOs, hfl⟩ := hG
  intro ad H locs la cells slots h1 h2 h3 h4 h5 h6 h7 h8 h9 h10
  exact va_iald (D := D) hx hb hKs h3 i 0 (zws_at hi) rfl hin hd (kk ad H locs la cells slots h1 h2 h3 h4 h5 h6 h7 h8 h9 h10)
theorem z_ast6 {i n : Nat} {a v : Int32} (hG : zG x cc nL own ret) (hi : dl[i]? = some (.inr (6, n))) (hin : vp_in a (zLn σ i)) (hd : decode cc pc = .ok (.iastore, 1))
    (kk : zK x F (pc + 1) ls st dl (zi σ i a.toNatClampNeg v) A B) : zK x F pc ls (.int v :: .int a :: .ref i :: st) dl σ A B := by
  obtain ⟨p, l, e, R, s, m, args, below, meth, c, D, ca, b0, ad0, n0, tg⟩ := x
  obtain ⟨hx, hb, hml, hown, hts, hret, hlk, htab, hKs, hOs, hfl⟩ := hG
  intro ad H locs la cells slots h1 h2 h3 h4 h5 h6 h7 h8 h9 h10
  refine va_iast (D := D) hx hb hKs h3 h4 h5 i 0 (zws_at hi) rfl hin hd (fun H1 locs1 g1 g2 g3 => ?_)
  rw [zws_set (σ := σ) (σ' := zi σ i a.toNatClampNeg v) hi (by show (.inl (ca 0, zLn σ i, .inl ((zi σ i a.toNatClampNeg v).1 i)) : va_E) = _; rw [zupd]) (fun j hj => by funext q; exact if_neg (fun z => hj z.1)) (fun j hj => rfl) rfl] at g1 g2
  exact kk ad H1 locs1 la cells slots h1 h2 g1 g2 g3 h6 h7 h8 h9 h10
/-- bytes of one cell into another -/
theorem z_copyX {index i j m0 m1 : Nat} {di dj : zDs} {sp dp n : Int32} (hG : zG x cc nL own ret) (hi : dl[i]? = some di) (hj : dl[j]? = some dj) (hci : ∀ (ad : Nat → Nat) (ca : Nat → ClassId), zcell ad ca σ i di = .inl (ca 1, m0, .inl (σ.1 i))) (hcj : ∀ (ad : Nat → Nat) (ca : Nat → ClassId), zcell ad ca σ j dj = .inl (ca 1, m1, .inl (σ.1 j)))
    (hcj' : ∀ (ad : Nat → Nat) (ca : Nat → ClassId), zcell ad ca (zcpy σ i j sp dp n) j dj = .inl (ca 1, m1, .inl ((zcpy σ i j sp dp n).1 j))) (hlink : Cond.methodLink own index arraycopyName ∈ zT) (hnat : Cond.native arraycopyName ∈ zT) (hstat : Cond.static arraycopyName ∈ zT) (hini : Cond.initialized "java/lang/System" ∈ zT) (hW : (st.map fun v => v.category).sum ≤ 8) (hc : zcpo sp dp n m0 m1 = true) (hfb : zcpb (σ.1 i) sp n = true) (hd : decode cc pc = .ok (.invokestatic index, 3))
    (kk : zK x F (pc + 3) ls st dl (zcpy σ i j sp dp n) A B) : zK x F pc ls (.int n :: .int dp :: .ref j :: .int sp :: .ref i :: st) dl σ A B := by
  obtain ⟨p, l, e, R, s, m, args, below, meth, c, D, ca, b0, ad0, n0, tg⟩ := x
  obtain ⟨hx, hb, hml, hown, hts, hret, hlk, htab, hKs, hOs, hfl⟩ := hG
  intro ad H locs la cells slots h1 h2 h3 h4 h5 h6 h7 h8 h9 h10
  have hsum : ((st.map (zr ad)).map fun v => v.category).sum ≤ 8 := by
    rw [List.map_map]
    exact Nat.le_trans (Nat.le_of_eq (congrArg List.sum (List.map_congr_left fun v _ => zr_cat ad v))) hW
  obtain ⟨c1, c2, c3, c4, c5⟩ := of_decide_eq_true hc
  have hnf : nativeFrameWords "java/lang/System" "arraycopy" 5 ≤ 60 := by decide
  refine va_copyi hx hb h6.1.symm hown (hts _ hlink) (hts _ hnat) (hts _ hstat) (hts _ hini) hKs h3 h4 h5 i j 1 1 ((zws_at hi).trans (congrArg (fun z => some (ad i, z)) (hci ad ca))) ((zws_at hj).trans (congrArg (fun z => some (ad j, z)) (hcj ad ca))) (ty := .byte) rfl rfl rfl c1 c2 c3 c4 c5 (fun k hk => List.all_eq_true.mp hfb k (List.mem_range.mpr hk)) (by omega) (by omega) hd (fun H1 locs1 g1 g2 g3 => ?_)
  have hz := zws_set (ad := ad) (ca := ca) (σ := σ) (σ' := zcpy σ i j sp dp n) hj (e := .inl (ca 1, m1, .inl (va_cpy (σ.1 i) (σ.1 j) sp.toNatClampNeg dp.toNatClampNeg n.toNatClampNeg))) (by rw [hcj', zcpy_at]) (fun q hq => if_neg hq) (fun _ _ => rfl) rfl
  rw [hz] at g1 g2
  exact kk ad H1 locs1 la cells slots h1 h2 g1 g2 g3 h6 h7 h8 h9 h10
/-- the letters of one of the law's texts -/
def lbf (q : Nat) : Nat → Int32 := fun k => (lbyt.getD (q - 1000) []).getD k 0
theorem z_copyT {index q q2 j m1 : Nat} {dj : zDs} {sp dp n : Int32} (hG : zG x cc nL own ret) (hq : zsq2 q = true) (h2 : q + 20 = q2) (hj : dl[j]? = some dj) (hcj : ∀ (ad : Nat → Nat) (ca : Nat → ClassId), zcell ad ca σ j dj = .inl (ca 1, m1, .inl (σ.1 j)))
    (hcj' : ∀ (ad : Nat → Nat) (ca : Nat → ClassId) (f : Nat → Int32), zcell ad ca (zir σ j f) j dj = .inl (ca 1, m1, .inl ((zir σ j f).1 j))) (hlink : Cond.methodLink own index arraycopyName ∈ zT) (hnat : Cond.native arraycopyName ∈ zT) (hstat : Cond.static arraycopyName ∈ zT) (hini : Cond.initialized "java/lang/System" ∈ zT) (hW : (st.map fun v => v.category).sum ≤ 8) (hc : zcpo sp dp n (llen.getD (q - 1000) 0) m1 = true) (hfb : zcpb (lbf q) sp n = true) (hd : decode cc pc = .ok (.invokestatic index, 3))
    (kk : zK x F (pc + 3) ls st dl (zir σ j (va_cpy (lbf q) (σ.1 j) sp.toNatClampNeg dp.toNatClampNeg n.toNatClampNeg)) A B) : zK x F pc ls (.int n :: .int dp :: .ref j :: .int sp :: .ref q2 :: st) dl σ A B := by
  subst h2
  obtain ⟨p, l, e, R, s, m, args, below, meth, c, D, ca, b0, ad0, n0, tg⟩ := x
  obtain ⟨hx, hb, hml, hown, hts, hret, hlk, htab, hKs, hOs, hfl⟩ := hG
  intro ad H locs la cells slots h1 h2 h3 h4 h5 h6 h7 h8 h9 h10
  have hsum : ((st.map (zr ad)).map fun v => v.category).sum ≤ 8 := by
    rw [List.map_map]
    exact Nat.le_trans (Nat.le_of_eq (congrArg List.sum (List.map_congr_left fun v _ => zr_cat ad v))) hW
  obtain ⟨c1, c2, c3, c4, c5⟩ := of_decide_eq_true hc
  have hnf : nativeFrameWords "java/lang/System" "arraycopy" 5 ≤ 60 := by decide
  refine vk_copyt (f := lbf q) hx hb h6.1.symm hown (hts _ hlink) (hts _ hnat) (hts _ hstat) (hts _ hini) hKs h3 h4 h5 ((hOs.1.2.2.2.ad h1.hi).str2 hq).2.2.2 j 1 ((zws_at hj).trans (congrArg (fun z => some (ad j, z)) (hcj ad ca))) rfl c1 c2 c3 c4 c5 (fun k hk => List.all_eq_true.mp hfb k (List.mem_range.mpr hk)) (by omega) (by omega) hd (fun H1 locs1 g1 g2 g3 => ?_)
  have hz := zws_set (ad := ad) (ca := ca) (σ := σ) (σ' := zir σ j (va_cpy (lbf q) (σ.1 j) sp.toNatClampNeg dp.toNatClampNeg n.toNatClampNeg)) hj (e := .inl (ca 1, m1, .inl (va_cpy (lbf q) (σ.1 j) sp.toNatClampNeg dp.toNatClampNeg n.toNatClampNeg))) (by rw [hcj']; exact congrArg (fun z => (.inl (ca 1, m1, .inl z) : va_E)) (if_pos rfl)) (fun q hq => if_neg hq) (fun _ _ => rfl) rfl
  rw [hz] at g1 g2
  exact kk ad H1 locs1 la cells slots h1 h2 g1 g2 g3 h6 h7 h8 h9 h10
/-- cells at the end may be forgotten -/
theorem z_drop {E : List zDs} (hn : x.2.2.2.2.2.2.2.2.2.2.2.2.2.2.1 ≤ dl.length) (k : zK x F pc ls st dl σ A B) : zK x F pc ls st (dl ++ E) σ A B := by
  obtain ⟨p, l, e, R, s, m, args, below, meth, c, D, ca, b0, ad0, n0, tg⟩ := x
  intro ad H locs la cells slots h1 h2 h3 h4 h5 h6 h7 h8 h9 h10
  have up : ∀ {k : Nat} {q : Nat × va_E}, (zws ad ca dl σ)[k]? = some q → (zws ad ca (dl ++ E) σ)[k]? = some q := by
    intro k q hk
    obtain ⟨d, hd, rfl⟩ := zws_out hk
    exact zws_at (by rw [List.getElem?_append_left (List.getElem?_eq_some_iff.mp hd).1]; exact hd)
  exact k ad H locs la cells slots h1 hn (fun k q hk => h3 k q (up hk)) ⟨fun i j p q hi hj e => h4.1 i j p q (up hi) (up hj) e, fun k q hk => h4.2 k q (up hk)⟩ h5 h6 h7 h8 h9 h10
theorem z_mmax {index : Nat} {u v : Int32} (hG : zG x cc nL own ret) (hlink : Cond.methodLink own index Lib.Math.max.name ∈ zT) (hstat : Cond.static Lib.Math.max.name ∈ zT) (hini : Cond.initialized "java/lang/Math" ∈ zT) (hcode : Cond.code Lib.Math.max.name Lib.Math.max.code 2 (some .int) ∈ zT) (hW : (st.map fun v => v.category).sum ≤ 8) (hd : decode cc pc = .ok (.invokestatic index, 3))
    (kk : zK x F (pc + 3) ls (.int (if u < v then v else u) :: st) dl σ A B) : zK x F pc ls (.int v :: .int u :: st) dl σ A B := by
  obtain ⟨p, l, e, R, s, m, args, below, meth, c, D, ca, b0, ad0, n0, tg⟩ := x
  obtain ⟨hx, hb, hml, hown, hts, hret, hlk, htab, hKs, hOs, hfl⟩ := hG
  intro ad H locs la cells slots h1 h2 h3 h4 h5 h6 h7 h8 h9 h10
  have hsum : ((st.map (zr ad)).map fun v => v.category).sum ≤ 8 := by
    rw [List.map_map]
    exact Nat.le_trans (Nat.le_of_eq (congrArg List.sum (List.map_congr_left fun v _ => zr_cat ad v))) hW
  refine va_mmax hx hb h6.1.symm hown (hts _ hlink) (hts _ hstat) (hts _ hini) (hts _ hcode) (by omega) (by omega) (by omega) (by omega) hd ?_
  exact kk ad H locs la cells slots h1 h2 h3 h4 h5 h6 h7 h8 h9 h10
theorem z_areto {i : Nat} {t : String} (hG : zG x cc nL own ret) (hr : ret = some (.object t)) (htg : ztg x = (.inl (some (.ref i)), dl, σ)) (hd : decode cc pc = .ok (.areturn, 1)) : zK x F pc ls [.ref i] dl σ A B := by
  obtain ⟨p, l, e, R, s, m, args, below, meth, c, D, ca, b0, ad0, n0, tg⟩ := x
  obtain ⟨hx, hb, hml, hown, hts, hret, hlk, htab, hKs, hOs, hfl⟩ := hG
  intro ad H locs la cells slots h1 h2 h3 h4 h5 h6 h7 h8 h9 h10
  have htg : tg = (.inl (some (.ref i)), dl, σ) := htg
  subst htg
  refine W.widen (k := R.cells) (n := R.slots) (by omega) (by omega) (vx_ret ?_)
  exact W.aret hx hb (hret.trans hr) (Or.inl ⟨t, rfl⟩) (Or.inr ⟨ad i, rfl⟩) (fun t ht hW => ⟨⟨_, ad, rfl, rfl, h1, by rw [show t.heap = H from ht]; exact h3, va_K.moved hW.alike hKs, h4, by rw [show t.heap = H from ht]; exact ((hOs.1.kept h5.1 h5.2.1).moved hW.alike).ad h1.hi⟩, h5.F ht⟩) h5.2.2 hd hlk
end ZB
/-! the row that has grown is the builder's row from now on -/
def zgr5 (σ : zS) (j N n : Nat) : zS := (fun a => if a = j then σ.1 N else σ.1 a, fun a b => if a = j ∧ b = 0 then Int64.ofNat n else σ.2.1 a b, σ.2.2)
theorem zws_gr5 {ad : Nat → Nat} {ca : Nat → ClassId} {dl : List zDs} {σ : zS} {i j N k n n' ci : Nat} {fl : List (Nat × Nat)} (hN : dl.length = N) (hi : dl[i]? = some (.inl (ci, fl))) (hj : dl[j]? = some (.inr (5, n))) (hk : fl[k]? = some (1, j)) (h24 : j ≠ 24 ∧ j ≠ 25) (hoth : ∀ (m : Nat) (d : zDs), dl[m]? = some d → m ≠ i → zrokb j d = true) (hfl : ∀ (k' a b : Nat), fl[k']? = some (a, b) → k' ≠ k → a = 1 → b ≠ j) (hn : n' < 9223372036854775808) (m : Nat) (q : Nat × va_E) (h : (zws (zput ad j (ad N)) ca dl (zgr5 σ j N n'))[m]? = some q) :
    m < N ∧ (zws ad ca ((dl ++ [(Sum.inr (1, n') : zDs)]).set i (Sum.inl (ci, fl.set k (1, N)))) σ)[if m = j then N else m]? = some q := by
  have hiN : i < N := by rw [← hN]; exact (List.getElem?_eq_some_iff.mp hi).1
  have hjN : j < N := by rw [← hN]; exact (List.getElem?_eq_some_iff.mp hj).1
  have hij : i ≠ j := fun e => by rw [e, hj] at hi; cases hi
  obtain ⟨d, hd, rfl⟩ := zws_out h
  have hmN : m < N := by rw [← hN]; exact (List.getElem?_eq_some_iff.mp hd).1
  have hcl : ∀ a, a ≠ j → (zgr5 σ j N n').1 a = σ.1 a := fun a ha => if_neg ha
  have hcl2 : ∀ a, a ≠ j → (zgr5 σ j N n').2.1 a = σ.2.1 a := fun a ha => by funext b; exact if_neg (fun z => ha z.1)
  have hsp : ∀ c, zsp (zgr5 σ j N n') c = zsp σ c := fun c => rfl
  refine ⟨hmN, ?_⟩
  by_cases hmj : m = j
  · rw [if_pos hmj, hmj, zput_i]
    rw [hmj, hj] at hd
    have hd := Option.some.inj hd
    subst hd
    have hx : ((dl ++ [(Sum.inr (1, n') : zDs)]).set i (Sum.inl (ci, fl.set k (1, N))))[N]? = some (.inr (1, n') : zDs) := by
      rw [List.getElem?_set_ne (by omega), List.getElem?_append_right (by omega), hN, Nat.sub_self]
      rfl
    rw [zws_at hx]
    have e1 : (zgr5 σ j N n').1 j = σ.1 N := if_pos rfl
    have e2 : (zgr5 σ j N n').2.1 j 0 = Int64.ofNat n' := if_pos ⟨rfl, rfl⟩
    show some (ad N, (Sum.inl (ca 1, n', Sum.inl (σ.1 N)) : va_E)) = some (ad N, Sum.inl (ca 1, ((zgr5 σ j N n').2.1 j 0).toNatClampNeg, Sum.inl ((zgr5 σ j N n').1 j)))
    rw [e1, e2, Int64.toNatClampNeg_ofNat_of_lt hn]
  · rw [if_neg hmj, zput_n hmj]
    by_cases hmi : m = i
    · rw [hmi]
      rw [hmi, hi] at hd
      have hd := Option.some.inj hd
      subst hd
      have hx : ((dl ++ [(Sum.inr (1, n') : zDs)]).set i (Sum.inl (ci, fl.set k (1, N))))[i]? = some (.inl (ci, fl.set k (1, N)) : zDs) := List.getElem?_set_self (by rw [List.length_append]; omega)
      rw [zws_at hx]
      refine congrArg (fun z => some (ad i, z)) ?_
      show (Sum.inr (ci, _) : va_E) = Sum.inr (ci, _)
      congr 2
      apply List.ext_getElem?
      intro k'
      simp only [List.getElem?_mapIdx]
      by_cases hkk : k' = k
      · subst hkk
        rw [List.getElem?_set_self (List.getElem?_eq_some_iff.mp hk).1, hk]
        show some (Value.ref (ad N)) = some (Value.ref (zput ad j (ad N) j))
        rw [zput_i]
      · rw [List.getElem?_set_ne (fun q => hkk q.symm)]
        cases hq : fl[k']? with
        | none => rfl
        | some z =>
          obtain ⟨a, b⟩ := z
          rcases a with _ | _ | _ | a
          · show some (Value.int (σ.1 i k')) = some (Value.int ((zgr5 σ j N n').1 i k'))
            rw [hcl i hij]
          · show some (Value.ref (ad b)) = some (Value.ref (zput ad j (ad N) b))
            rw [zput_n (hfl k' 1 b hq hkk rfl)]
          · show some (Value.ref (ad (zsp σ b))) = some (Value.ref (zput ad j (ad N) (zsp σ b)))
            rcases zsp_or σ b with e | e
            · rw [e, zput_n (fun z => h24.1 z.symm)]
            · rw [e, zput_n (fun z => h24.2 z.symm)]
          · rfl
    · have hx : ((dl ++ [(Sum.inr (1, n') : zDs)]).set i (Sum.inl (ci, fl.set k (1, N))))[m]? = some d := by
        rw [List.getElem?_set_ne (fun q => hmi q.symm), List.getElem?_append_left (by omega)]
        exact hd
      rw [zws_at hx]
      refine congrArg (fun z => some (ad m, z)) ?_
      rw [zcell_put (hoth m d hd hmi), zcell_ne (σ := σ) (σ' := zgr5 σ j N n') (hcl m hmj) (hcl2 m hmj) rfl]
/-- the classes' numbers that a walk goes by; two spare ones tell whether the builder's row may move -/
def zca (x : zXx) : Nat → ClassId := x.2.2.2.2.2.2.2.2.2.2.2.1
theorem z_conv5 {x : zXx} {F pc : Nat} {ls : List (Nat × Value)} {dl : List zDs} {σ : zS} {A B i j N k n n' ci : Nat} {fl : List (Nat × Nat)} (hns : ¬ zca x 99 = zca x 98) (hn0 : x.2.2.2.2.2.2.2.2.2.2.2.2.2.2.1 ≤ dl.length) (hN : dl.length = N) (hi : dl[i]? = some (.inl (ci, fl))) (hj : dl[j]? = some (.inr (5, n))) (hk : fl[k]? = some (1, j)) (h24 : j ≠ 24 ∧ j ≠ 25) (hmv : zMv j = true) (hoth : ∀ (m : Nat) (d : zDs), dl[m]? = some d → m ≠ i → zrokb j d = true) (hfl : ∀ (k' a b : Nat), fl[k']? = some (a, b) → k' ≠ k → a = 1 → b ≠ j) (hn : n' < 9223372036854775808) (hls : ls.all (fun q => zokn j q.2) = true)
    (kk : zK x F pc ls [] dl (zgr5 σ j N n') A B) : zK x F pc ls [] ((dl ++ [(Sum.inr (1, n') : zDs)]).set i (Sum.inl (ci, fl.set k (1, N)))) σ A B := by
  obtain ⟨p, l, e, R, s, m, args, below, meth, c, D, ca, b0, ad0, n0, tg⟩ := x
  intro ad H locs la cells slots h1 h2 h3 h4 h5 h6 h7 h8 h9 h10
  have key := fun m q h => zws_gr5 (ad := ad) (ca := ca) (σ := σ) hN hi hj hk h24 hoth hfl hn m q h
  have hd : va_D (zA b0) (zws (zput ad j (ad N)) ca dl (zgr5 σ j N n')) := by
    refine ⟨fun a b p q ha hb hpq => ?_, fun a q ha => h4.2 _ q (key a q ha).2⟩
    obtain ⟨a1, a2⟩ := key a p ha
    obtain ⟨b1, b2⟩ := key b q hb
    have h := h4.1 _ _ p q a2 b2 hpq
    by_cases ha' : a = j
    · by_cases hb' : b = j
      · omega
      · rw [if_pos ha', if_neg hb'] at h
        omega
    · by_cases hb' : b = j
      · rw [if_neg ha', if_pos hb'] at h
        omega
      · rw [if_neg ha', if_neg hb'] at h
        exact h
  exact kk (zput ad j (ad N)) H locs la cells slots (fun a ha hf => (zput_n (fun e => hf.elim (fun z => by rw [e, hmv] at z; cases z) (fun z => hns z.2))).trans (h1 a ha hf)) hn0 (fun m q hq => h3 _ q (key m q hq).2) hd h5 (by rw [zokn_ls hls]; exact h6) h7 h8 h9 h10
/-! private methods of a class above, found by an object of a class below -/
theorem wv_831 : Cond.superclass RJ4 RJ5 ∈ zT := zT_k4 111 rfl rfl
theorem wv_1030 : Cond.sameMethod RJ5 RJ5 "length" "()I" ∈ zT := zT_k5 70 rfl rfl
theorem wv_1267 : Cond.sameMethod RJ5 RJ5 "append" "(Ljava/lang/String;)Ljava/lang/AbstractStringBuilder;" ∈ zT := zT_k6 67 rfl rfl
theorem wv_1274 : Cond.sameMethod RJ5 RJ5 "append" "(C)Ljava/lang/AbstractStringBuilder;" ∈ zT := zT_k6 74 rfl rfl
theorem wv_1275 : Cond.sameMethod RJ5 RJ5 "append" "(I)Ljava/lang/AbstractStringBuilder;" ∈ zT := zT_k6 75 rfl rfl
theorem zselp {C : String} {y z : MethodName} {s : State} {args : Array Value} (hy : y.cls ≠ "java/lang/invoke/MethodHandle" ∧ y.cls ≠ "java/lang/invoke/VarHandle") (hz : z.cls = y.cls) (hs : (Cond.selects C z z).before args s = true) (hpriv : (Cond.privateMethod y).before args s = true) (hinst : (Cond.instanceMethod y).before args s = true) : (Cond.selects C y y).before args s = true := by
  obtain ⟨c, r, m, hc, -, hm, -, k, hk, hni⟩ := Cond.selects_spec hs
  obtain ⟨mk, methM, hnamed, hmethM, -, -⟩ := Cond.instanceMethod_spec hinst
  have hfound : s.methodFound? y.cls y.name y.desc = some mk := State.methodFound?_of_named hnamed hy
  have hcls : mk.cls = m.cls := Option.some.inj ((findClass_of_methodNamed hnamed).symm.trans (show s.vm.findClass y.cls = some m.cls by rw [← hz]; exact findClass_of_methodNamed hm))
  have hsel : selectMethod {} s.vm c mk = .method mk := selectMethod_private hmethM (Cond.privateMethod_at hpriv mk methM hnamed hmethM)
  simp only [Cond.before, Cond.holds, Cond.value, hc, hfound, hnamed, hsel, hcls, hk]
  simp; exact hni
/-! contracts of methods that may move the builder's row, and calls that leave it where it is -/
def zCg (l : Launch) (y : MethodName) (cc : ByteArray) (maxL : Nat) (ret : Option FieldType) (fr nc ns : Nat) (av : List Value) (dl : List zDs) (σ : zS) (tg : zO3) : Prop :=
  ∀ (D : va_G) (ca : Nat → ClassId) (b0 : Nat → Prop) (ad : Nat → Nat), ¬ ca 99 = ca 98 → vx_Met l y (.code y cc maxL ret :: zT) (zrm fr nc ns) (va_Pc (av.map (zr ad)) (fun U => zWD D ca b0 ad dl σ U ∧ zRs ad U)) (zQc D ca b0 ad dl.length tg) (zXc D ca b0 ad dl.length tg) nc ns (zA b0)
theorem zC.g {l : Launch} {y : MethodName} {cc : ByteArray} {maxL : Nat} {ret : Option FieldType} {fr nc ns : Nat} {av : List Value} {dl : List zDs} {σ : zS} {tg : zO3} (h : zC l y cc maxL ret fr nc ns av dl σ tg) : zCg l y cc maxL ret fr nc ns av dl σ tg := fun D ca b0 ad _ => h D ca b0 ad
theorem zCg_of {l : Launch} (hl : l.flags = flags0) {y : MethodName} {cc : ByteArray} {maxL : Nat} {ret : Option FieldType} {fr nc ns : Nat} {av : List Value} {dl : List zDs} {σ : zS} {tg : zO3} (hy : plainName y.cls = true) (hn : (lg_sl av).length ≤ maxL)
    (body : ∀ x : zXx, zG x cc maxL y.cls ret → zl0 x = l → ztg x = tg → ¬ zca x 99 = zca x 98 → x.2.2.2.2.2.2.2.2.2.2.2.2.2.2.1 = dl.length → zK x fr 0 (lv_args 0 av) [] dl σ nc ns) : zCg l y cc maxL ret fr nc ns av dl σ tg := by
  intro D ca b0 ad hns
  refine vx_ofW (cc := cc) (maxL := maxL) (ret := ret) hy rfl ?_
  intro p e s m args below meth c s₁ B hml htab hv
  obtain ⟨rfl, ⟨hP, hK, hD, hO⟩, hR⟩ := hv
  have hts := atoms_spec (ws := .code y cc maxL ret :: zT) B.pre
  have hown : s.vm.findClass y.cls = some m.cls := findClass_of_methodNamed B.named
  have hk := body (p, l, e, (headSpec (.code y cc maxL ret :: zT) (zrm fr nc ns)).room, s, m, (av.map (zr ad)).toArray, below, meth, c, D, ca, b0, ad, dl.length, tg) ⟨B.exec, B.bytes, hml, hown, fun w h => hts w (List.mem_cons_of_mem _ h), B.returns, B.notSynchronized, htab, hK, ⟨hO, hR⟩, hl⟩ rfl rfl hns rfl
  have hle := lv_entry (av.map (zr ad)) (n := maxL) (by rw [zr_len]; exact hn)
  rw [lg_entry_eq]
  generalize (lg_sl (av.map (zr ad)) ++ List.replicate (maxL - (lg_sl (av.map (zr ad))).length) Slot.unset).toArray = la at hle ⊢
  rw [zrl_args] at hle
  exact hk ad s.heap [] la 0 0 zad.rf (Nat.le_refl _) hP hD va_S.rf (by rw [hml]; exact hle) (by rw [Nat.zero_add]; exact Nat.le_refl _) (by rw [Nat.zero_add]; exact Nat.le_refl _) (Nat.le_refl _) (Nat.le_refl _)
/-- the same world under other spare numbers -/
theorem zws_ca {ad : Nat → Nat} {ca ca' : Nat → ClassId} {dl : List zDs} {σ : zS} (h : ∀ k, k < 5 → ca' k = ca k) : zws ad ca' dl σ = zws ad ca dl σ := by
  unfold zws
  congr 1
  funext i d
  refine congrArg (fun z => (ad i, z)) ?_
  have h0 := h 0 (by decide)
  have h1 := h 1 (by decide)
  have h2 := h 2 (by decide)
  have h3 := h 3 (by decide)
  have h4 := h 4 (by decide)
  rcases d with ⟨ci, fl⟩ | ⟨t, n⟩
  · rfl
  · rcases t with _ | _ | _ | _ | _ | _ | _ | t
    · show (Sum.inl (ca' 0, _) : va_E) = Sum.inl (ca 0, _)
      rw [h0]
    · show (Sum.inl (ca' 1, _) : va_E) = Sum.inl (ca 1, _)
      rw [h1]
    · show (Sum.inl (ca' 2, _) : va_E) = Sum.inl (ca 2, _)
      rw [h2]
    · show (Sum.inl (ca' 3, _) : va_E) = Sum.inl (ca 3, _)
      rw [h3]
    · show (Sum.inl (ca' 0, _) : va_E) = Sum.inl (ca 0, _)
      rw [h0]
    · show (Sum.inl (ca' 1, _) : va_E) = Sum.inl (ca 1, _)
      rw [h1]
    · show (Sum.inl (ca' 0, _) : va_E) = Sum.inl (ca 0, _)
      rw [h0]
    · show (Sum.inl (ca' 4, _) : va_E) = Sum.inl (ca 4, _)
      rw [h4]
def zcs (ca : Nat → ClassId) : Nat → ClassId := fun k => if k = 99 then ca 98 else ca k
theorem zcs_lo {ca : Nat → ClassId} (k : Nat) (h : k < 5) : zcs ca k = ca k := if_neg (by omega)
theorem zcs_s {ca : Nat → ClassId} : zcs ca 99 = zcs ca 98 := by
  unfold zcs
  rw [if_pos rfl, if_neg (by decide)]
theorem ztys_ca {ca ca' : Nat → ClassId} (h : ∀ k, k < 5 → ca' k = ca k) : ztys ca' = ztys ca := by
  unfold ztys
  rw [h 0 (by decide), h 1 (by decide), h 2 (by decide), h 3 (by decide), h 4 (by decide)]
theorem zWD_ca {D : va_G} {ca ca' : Nat → ClassId} {b0 : Nat → Prop} {ad : Nat → Nat} {dl : List zDs} {σ : zS} {U : State} (h : ∀ k, k < 5 → ca' k = ca k) : zWD D ca' b0 ad dl σ U ↔ zWD D ca b0 ad dl σ U := by
  unfold zWD
  rw [zws_ca h, ztys_ca h]
/-- what a call may not move: all but the row of found boxes -/
def zoks (n : Nat) : Value → Bool
  | .ref i => (decide (i < n) || decide (900 ≤ i)) && !(i == 27)
  | _ => true
theorem zoks_zr {ca : Nat → ClassId} {n : Nat} {ad ad' : Nat → Nat} {v : Value} (h : zad (zcs ca) n ad ad') (hv : zoks n v = true) : zr ad' v = zr ad v := by
  cases v with
  | ref i =>
    simp only [zoks, Bool.and_eq_true, Bool.or_eq_true, decide_eq_true_eq, Bool.not_eq_true', beq_eq_false_iff_ne] at hv
    exact congrArg Value.ref (h i hv.1 (.inr ⟨hv.2, zcs_s⟩))
  | _ => rfl
theorem zad.weak {ca : Nat → ClassId} {n : Nat} {ad ad' : Nat → Nat} (h : zad (zcs ca) n ad ad') : zad ca n ad ad' := fun i hi hf => h i hi (hf.imp (fun q => q) (fun q => ⟨q.1, zcs_s⟩))
theorem zand {a b : Bool} (h1 : a = true) (h2 : b = true) : (a && b) = true := by rw [h1, h2]; rfl
theorem zok_of {dl : List zDs} {i : Nat} {d : zDs} (h : dl[i]? = some d) (hm : zMv i = false) : zok dl.length (.ref i) = true := by
  show ((decide (i < dl.length) || decide (900 ≤ i)) && !(zMv i)) = true
  rw [decide_eq_true (List.getElem?_eq_some_iff.mp h).1, hm]
  rfl
theorem zok_hi {n q : Nat} (h : 900 ≤ q) : zok n (.ref q) = true := by
  show ((decide (q < n) || decide (900 ≤ q)) && !(zMv q)) = true
  rw [decide_eq_true h, zMv_no (by omega) (by omega) (by omega), Bool.or_true]
  rfl
theorem zoks_of {dl : List zDs} {i : Nat} {d : zDs} (h : dl[i]? = some d) (hm : i ≠ 27) : zoks dl.length (.ref i) = true := by
  show ((decide (i < dl.length) || decide (900 ≤ i)) && !(i == 27)) = true
  rw [decide_eq_true (List.getElem?_eq_some_iff.mp h).1, beq_eq_false_iff_ne.mpr hm]
  rfl
theorem zoks_hi {n q : Nat} (h : 900 ≤ q) : zoks n (.ref q) = true := by
  show ((decide (q < n) || decide (900 ≤ q)) && !(q == 27)) = true
  rw [decide_eq_true h, beq_eq_false_iff_ne.mpr (by omega), Bool.or_true]
  rfl
/-! calls: of what may move the builder's row (..G), of what leaves it (..S) -/
theorem zoks_st {ca : Nat → ClassId} {n : Nat} {ad ad' : Nat → Nat} {st : List Value} (h : zad (zcs ca) n ad ad') (hv : st.all (zoks n) = true) : st.map (zr ad') = st.map (zr ad) := List.map_congr_left fun v hm => zoks_zr h (List.all_eq_true.mp hv v hm)
theorem zoks_ls {ca : Nat → ClassId} {n : Nat} {ad ad' : Nat → Nat} {ls : List (Nat × Value)} (h : zad (zcs ca) n ad ad') (hv : ls.all (fun q => zoks n q.2) = true) : zrl ad' ls = zrl ad ls := List.map_congr_left fun q hm => congrArg (fun z => (q.1, z)) (zoks_zr h (List.all_eq_true.mp hv q hm))
theorem z_afterS {x : zXx} {cc : ByteArray} {nL : Nat} {own : String} {ret : Option FieldType} {F pc : Nat} {ls : List (Nat × Value)} {st rest : List Value} {dl dl' : List zDs} {σ σ' : zS} {A B A' B' nc ns : Nat} {v : Option Value} (hG : zG x cc nL own ret)
    (hle : dl.length ≤ dl'.length) (hst : rest.all (zoks dl.length) = true) (hls : ls.all (fun q => zoks dl.length q.2) = true) (hA : A = A' + nc) (hB : B = B' + ns)
    (kk : zK x F (pc + 3) ls (v.toList ++ rest) dl' σ' A' B')
    (run : match x with | (p, l, e, R, s, m, args, below, meth, c, D, ca, b0, ad0, n0, tg) => ∀ (ad : Nat → Nat) (H : Heap) (locs : List Loc) (la : Array Slot) (cells slots : Nat), zad ca n0 ad0 ad → va_P D zcls (zws ad ca dl σ) H → va_D (zA b0) (zws ad ca dl σ) → va_S (zA b0) s.heap H locs → cells + nc ≤ R.cells → slots + ns ≤ R.slots → la.size = c.maxLocals → 2 * F + 20 ≤ R.frames → 50 * F + 200 ≤ R.locals → ∃ a, vx_Run p l e R s m args below meth c H locs cells slots nc ns (F0 m pc la (st.map (zr ad))) (rest.map (zr ad)) (zQc D (zcs ca) b0 ad dl.length (.inl v, dl', σ') a) (zXc D (zcs ca) b0 ad dl.length (.inl v, dl', σ')) (zA b0)) :
    zK x F pc ls st dl σ A B := by
  obtain ⟨p, l, e, R, s, m, args, below, meth, c, D, ca, b0, ad0, n0, tg⟩ := x
  obtain ⟨hx, hb, hml, hown, hts, hret, hlk, htab, hKs, hOs, hfl⟩ := hG
  intro ad H locs la cells slots h1 h2 h3 h4 h5 h6 h7 h8 h9 h10
  obtain ⟨aa, hr⟩ := run ad H locs la cells slots h1 h3 h4 h5 (by omega) (by omega) h6.1 h9 h10
  intro T hT X
  rcases hr T hT X with ⟨v1, st₀, t, T', L, h0, X', hL, e1, e2, ⟨⟨v2, ad', hv, ho, had, hw1, hw2, hw3, hw4⟩, hF⟩, go⟩ | ⟨q, st₀, t, T', L, E, ce, h0, X', hL, e1, e2, ⟨⟨ad', hv, -⟩, -⟩, -⟩
  · cases hv
    cases ho
    rw [zws_ca zcs_lo] at hw1 hw3
    obtain ⟨k1, k2, k3⟩ := vx_keep h0 e1 h5 (fun q _ h => h) (fun q h => h) hL hF
    have hrest : rest.map (zr ad') = rest.map (zr ad) := zoks_st had hst
    have hlls : zrl ad' ls = zrl ad ls := zoks_ls had hls
    obtain ⟨t2, a1, b1⟩ := kk ad' T'.heap (locs ++ L) la (cells + nc) (slots + ns) (h1.tr h2 had.weak) (Nat.le_trans h2 hle) (by rw [e1]; exact hw1) hw3 k3 (by rw [hlls]; exact h6) (by omega) (by omega) h9 h10 T' rfl X'
    refine ⟨t2, go t2 ?_, b1⟩
    rw [List.map_append, hrest] at a1
    cases v <;> exact a1
  · cases hv
section ZGS
variable {x : zXx} {cc bytes : ByteArray} {nL maxL : Nat} {own : String} {ret ret' : Option FieldType} {F fr pc : Nat} {ls : List (Nat × Value)} {st rest st2 : List Value} {dl dl' : List zDs} {σ σ' : zS} {A B A' B' nc ns n index : Nat} {y z : MethodName} {v : Option Value}
theorem z_virtG {ci i N : Nat} {C : String} {T : u_T} {fl : List (Nat × Nat)} (hG : zG x cc nL own ret) (hns : ¬ zca x 99 = zca x 98) (As rest : List Value) (hc : zcls[ci]? = some (C, T, N)) (hi : dl[i]? = some (.inl (ci, fl))) (hC : zCg (zl0 x) y bytes maxL ret' fr nc ns (.ref i :: As) dl σ (.inl v, dl', σ')) (hy : zY y bytes maxL ret' n) (hs : Cond.instanceMethod y ∈ zT ∧ Cond.selects C y y ∈ zT) (hl : Cond.methodLink own index y ∈ zT) (hd : decode cc pc = .ok (.invokevirtual index, 3)) (hn : As.length = n) (hF : fr + 1 ≤ F)
    (hle : dl.length ≤ dl'.length) (hst : rest.all (zok dl.length) = true) (hls : ls.all (fun q => zok dl.length q.2) = true) (hA : A = A' + nc) (hB : B = B' + ns) (hW : (rest.map fun v => v.category).sum ≤ 8) (hstk : st = As.reverse ++ .ref i :: rest) (h2 : v.toList ++ rest = st2)
    (kk : zK x F (pc + 3) ls st2 dl' σ' A' B') : zK x F pc ls st dl σ A B := by
  subst hstk
  subst h2
  refine z_after hG (Nat.le_refl _) hle hst hls hA hB kk ?_
  obtain ⟨p, l, e, R, s, m, args, below, meth, c, D, ca, b0, ad0, n0, tg⟩ := x
  obtain ⟨hx, hb, hml, hown, hts, hret, hlk, htab, hKs, hOs, hfl⟩ := hG
  intro ad H locs la cells slots h1 h3 h4 h5 h7 h8 h6 h9 h10
  exact ⟨_, vx_runV (C := C) (As := As.map (zr ad)) ⟨hx, hb, rfl, hown, hts⟩ (hC D ca b0 ad hns) ⟨zC_callB hts hy hl hF h9 h10, hts _ hs.1, hts _ hs.2⟩ ⟨zC_blind, va_recv hKs h3 hc (zws_at hi), fun U hU hW => ⟨rfl, ⟨by rw [hU]; exact h3, va_K.moved hW.alike hKs, h4, by rw [hU]; exact ((hOs.1.kept h5.1 h5.2.1).moved hW.alike).ad h1.hi⟩, (hOs.2.warm hW).ad h1.hi⟩⟩ rfl (by rw [List.length_map]; exact hn) h6 (by rw [List.map_append, List.map_reverse]; rfl) (lv_room (by rw [List.map_map]; exact Nat.le_trans (Nat.le_of_eq (congrArg List.sum (List.map_congr_left fun v _ => zr_cat ad v))) hW)) hd ⟨h7, h8⟩⟩
theorem z_superG {ci i N : Nat} {C : String} {T : u_T} {fl : List (Nat × Nat)} (hG : zG x cc nL own ret) (hns : ¬ zca x 99 = zca x 98) (As rest : List Value) (hc : zcls[ci]? = some (C, T, N)) (hi : dl[i]? = some (.inl (ci, fl))) (hC : zCg (zl0 x) y bytes maxL ret' fr nc ns (.ref i :: As) dl σ (.inl v, dl', σ')) (hy : zY y bytes maxL ret' n) (hno : y.name ≠ "<init>") (hs : Cond.instanceMethod y ∈ zT ∧ Cond.sameMethod y.cls y.cls y.name y.desc ∈ zT ∧ Cond.superclass own y.cls ∈ zT) (hl : Cond.methodLink own index y ∈ zT) (hd : decode cc pc = .ok (.invokespecial index, 3)) (hn : As.length = n) (hF : fr + 1 ≤ F)
    (hle : dl.length ≤ dl'.length) (hst : rest.all (zok dl.length) = true) (hls : ls.all (fun q => zok dl.length q.2) = true) (hA : A = A' + nc) (hB : B = B' + ns) (hW : (rest.map fun v => v.category).sum ≤ 8) (hstk : st = As.reverse ++ .ref i :: rest) (h2 : v.toList ++ rest = st2)
    (kk : zK x F (pc + 3) ls st2 dl' σ' A' B') : zK x F pc ls st dl σ A B := by
  subst hstk
  subst h2
  refine z_after hG (Nat.le_refl _) hle hst hls hA hB kk ?_
  obtain ⟨p, l, e, R, s, m, args, below, meth, c, D, ca, b0, ad0, n0, tg⟩ := x
  obtain ⟨hx, hb, hml, hown, hts, hret, hlk, htab, hKs, hOs, hfl⟩ := hG
  obtain ⟨y1, y2, y3, y4, y5⟩ := hy
  intro ad H locs la cells slots h1 h3 h4 h5 h7 h8 h6 h9 h10
  have hT : ∀ w ∈ Cond.code y bytes maxL ret' :: zT, ∀ (a' : Array Value) (U : State), s.WarmedH U.vm → w.before a' U = true := pay_in hts (fun w h => by
    rcases List.mem_cons.mp h with rfl | h
    · exact ⟨y1, zT_good y1⟩
    · exact ⟨h, zT_good h⟩)
  exact ⟨_, vx_ofRun (va_runSU (C := C) (As := As.map (zr ad)) (hKs.1 ci _ hc).2 ⟨hx, hb, rfl, hown, hts⟩ (vx_toMet (hC D ca b0 ad hns) (fun E st t h => by obtain ⟨⟨ad', h1, -⟩, -⟩ := h; cases h1)) ⟨⟨rfl, rfl, by show 2 * fr + 20 + 1 ≤ R.frames; omega, by show 8 + (maxL + 11) + (50 * fr + 200) ≤ R.locals; omega, hT, List.mem_cons_self⟩, hts _ hl, hts _ hs.2.1, hts _ hs.2.2, hts _ hs.1, hts _ y2, hts _ y1, hno, fun sig h => by rw [h] at y4; exact (Option.some.inj y4).symm⟩ ⟨zC_blind, va_recv hKs h3 hc (zws_at hi), fun U hU hW => ⟨rfl, ⟨by rw [hU]; exact h3, va_K.moved hW.alike hKs, h4, by rw [hU]; exact ((hOs.1.kept h5.1 h5.2.1).moved hW.alike).ad h1.hi⟩, (hOs.2.warm hW).ad h1.hi⟩⟩ rfl (by rw [List.length_map]; exact hn) h6 (by rw [List.map_append, List.map_reverse]; rfl) (lv_room (by rw [List.map_map]; exact Nat.le_trans (Nat.le_of_eq (congrArg List.sum (List.map_congr_left fun v _ => zr_cat ad v))) hW)) hd ⟨h7, h8⟩)⟩
theorem z_statG (hG : zG x cc nL own ret) (hns : ¬ zca x 99 = zca x 98) (As rest : List Value) (hC : zCg (zl0 x) y bytes maxL ret' fr nc ns As dl σ (.inl v, dl', σ')) (hy : zY y bytes maxL ret' n) (hs : Cond.static y ∈ zT) (hl : Cond.methodLink own index y ∈ zT) (hd : decode cc pc = .ok (.invokestatic index, 3)) (hn : As.length = n) (hF : fr + 1 ≤ F)
    (hle : dl.length ≤ dl'.length) (hst : rest.all (zok dl.length) = true) (hls : ls.all (fun q => zok dl.length q.2) = true) (hA : A = A' + nc) (hB : B = B' + ns) (hW : (rest.map fun v => v.category).sum ≤ 8) (hstk : st = As.reverse ++ rest) (h2 : v.toList ++ rest = st2)
    (kk : zK x F (pc + 3) ls st2 dl' σ' A' B') : zK x F pc ls st dl σ A B := by
  subst hstk
  subst h2
  refine z_after hG (Nat.le_refl _) hle hst hls hA hB kk ?_
  obtain ⟨p, l, e, R, s, m, args, below, meth, c, D, ca, b0, ad0, n0, tg⟩ := x
  obtain ⟨hx, hb, hml, hown, hts, hret, hlk, htab, hKs, hOs, hfl⟩ := hG
  intro ad H locs la cells slots h1 h3 h4 h5 h7 h8 h6 h9 h10
  exact ⟨_, vx_runS ⟨hx, hb, rfl, hown, hts⟩ (hC D ca b0 ad hns) ⟨zC_callB hts hy hl hF h9 h10, hts _ hs⟩ ⟨zC_blind, fun U hU hW => ⟨rfl, ⟨by rw [hU]; exact h3, va_K.moved hW.alike hKs, h4, by rw [hU]; exact ((hOs.1.kept h5.1 h5.2.1).moved hW.alike).ad h1.hi⟩, (hOs.2.warm hW).ad h1.hi⟩⟩ rfl (by rw [List.length_map]; exact hn) h6 (by rw [List.map_append, List.map_reverse]) (lv_room (by rw [List.map_map]; exact Nat.le_trans (Nat.le_of_eq (congrArg List.sum (List.map_congr_left fun v _ => zr_cat ad v))) hW)) hd ⟨h7, h8⟩⟩
theorem z_virtS {ci i N : Nat} {C : String} {T : u_T} {fl : List (Nat × Nat)} (hG : zG x cc nL own ret) (As rest : List Value) (hc : zcls[ci]? = some (C, T, N)) (hi : dl[i]? = some (.inl (ci, fl))) (hC : zC (zl0 x) y bytes maxL ret' fr nc ns (.ref i :: As) dl σ (.inl v, dl', σ')) (hy : zY y bytes maxL ret' n) (hs : Cond.instanceMethod y ∈ zT ∧ Cond.selects C y y ∈ zT) (hl : Cond.methodLink own index y ∈ zT) (hd : decode cc pc = .ok (.invokevirtual index, 3)) (hn : As.length = n) (hF : fr + 1 ≤ F)
    (hle : dl.length ≤ dl'.length) (hst : rest.all (zoks dl.length) = true) (hls : ls.all (fun q => zoks dl.length q.2) = true) (hA : A = A' + nc) (hB : B = B' + ns) (hW : (rest.map fun v => v.category).sum ≤ 8) (hstk : st = As.reverse ++ .ref i :: rest) (h2 : v.toList ++ rest = st2)
    (kk : zK x F (pc + 3) ls st2 dl' σ' A' B') : zK x F pc ls st dl σ A B := by
  subst hstk
  subst h2
  refine z_afterS hG  hle hst hls hA hB kk ?_
  obtain ⟨p, l, e, R, s, m, args, below, meth, c, D, ca, b0, ad0, n0, tg⟩ := x
  obtain ⟨hx, hb, hml, hown, hts, hret, hlk, htab, hKs, hOs, hfl⟩ := hG
  intro ad H locs la cells slots h1 h3 h4 h5 h7 h8 h6 h9 h10
  exact ⟨_, vx_runV (C := C) (As := As.map (zr ad)) ⟨hx, hb, rfl, hown, hts⟩ (hC D (zcs ca) b0 ad) ⟨zC_callB hts hy hl hF h9 h10, hts _ hs.1, hts _ hs.2⟩ ⟨zC_blind, va_recv hKs h3 hc (zws_at hi), fun U hU hW => ⟨rfl, (zWD_ca zcs_lo).mpr ⟨by rw [hU]; exact h3, va_K.moved hW.alike hKs, h4, by rw [hU]; exact ((hOs.1.kept h5.1 h5.2.1).moved hW.alike).ad h1.hi⟩, (hOs.2.warm hW).ad h1.hi⟩⟩ rfl (by rw [List.length_map]; exact hn) h6 (by rw [List.map_append, List.map_reverse]; rfl) (lv_room (by rw [List.map_map]; exact Nat.le_trans (Nat.le_of_eq (congrArg List.sum (List.map_congr_left fun v _ => zr_cat ad v))) hW)) hd ⟨h7, h8⟩⟩
theorem z_superS {ci i N : Nat} {C : String} {T : u_T} {fl : List (Nat × Nat)} (hG : zG x cc nL own ret) (As rest : List Value) (hc : zcls[ci]? = some (C, T, N)) (hi : dl[i]? = some (.inl (ci, fl))) (hC : zC (zl0 x) y bytes maxL ret' fr nc ns (.ref i :: As) dl σ (.inl v, dl', σ')) (hy : zY y bytes maxL ret' n) (hno : y.name ≠ "<init>") (hs : Cond.instanceMethod y ∈ zT ∧ Cond.sameMethod y.cls y.cls y.name y.desc ∈ zT ∧ Cond.superclass own y.cls ∈ zT) (hl : Cond.methodLink own index y ∈ zT) (hd : decode cc pc = .ok (.invokespecial index, 3)) (hn : As.length = n) (hF : fr + 1 ≤ F)
    (hle : dl.length ≤ dl'.length) (hst : rest.all (zoks dl.length) = true) (hls : ls.all (fun q => zoks dl.length q.2) = true) (hA : A = A' + nc) (hB : B = B' + ns) (hW : (rest.map fun v => v.category).sum ≤ 8) (hstk : st = As.reverse ++ .ref i :: rest) (h2 : v.toList ++ rest = st2)
    (kk : zK x F (pc + 3) ls st2 dl' σ' A' B') : zK x F pc ls st dl σ A B := by
  subst hstk
  subst h2
  refine z_afterS hG  hle hst hls hA hB kk ?_
  obtain ⟨p, l, e, R, s, m, args, below, meth, c, D, ca, b0, ad0, n0, tg⟩ := x
  obtain ⟨hx, hb, hml, hown, hts, hret, hlk, htab, hKs, hOs, hfl⟩ := hG
  obtain ⟨y1, y2, y3, y4, y5⟩ := hy
  intro ad H locs la cells slots h1 h3 h4 h5 h7 h8 h6 h9 h10
  have hT : ∀ w ∈ Cond.code y bytes maxL ret' :: zT, ∀ (a' : Array Value) (U : State), s.WarmedH U.vm → w.before a' U = true := pay_in hts (fun w h => by
    rcases List.mem_cons.mp h with rfl | h
    · exact ⟨y1, zT_good y1⟩
    · exact ⟨h, zT_good h⟩)
  exact ⟨_, vx_ofRun (va_runSU (C := C) (As := As.map (zr ad)) (hKs.1 ci _ hc).2 ⟨hx, hb, rfl, hown, hts⟩ (vx_toMet (hC D (zcs ca) b0 ad) (fun E st t h => by obtain ⟨⟨ad', h1, -⟩, -⟩ := h; cases h1)) ⟨⟨rfl, rfl, by show 2 * fr + 20 + 1 ≤ R.frames; omega, by show 8 + (maxL + 11) + (50 * fr + 200) ≤ R.locals; omega, hT, List.mem_cons_self⟩, hts _ hl, hts _ hs.2.1, hts _ hs.2.2, hts _ hs.1, hts _ y2, hts _ y1, hno, fun sig h => by rw [h] at y4; exact (Option.some.inj y4).symm⟩ ⟨zC_blind, va_recv hKs h3 hc (zws_at hi), fun U hU hW => ⟨rfl, (zWD_ca zcs_lo).mpr ⟨by rw [hU]; exact h3, va_K.moved hW.alike hKs, h4, by rw [hU]; exact ((hOs.1.kept h5.1 h5.2.1).moved hW.alike).ad h1.hi⟩, (hOs.2.warm hW).ad h1.hi⟩⟩ rfl (by rw [List.length_map]; exact hn) h6 (by rw [List.map_append, List.map_reverse]; rfl) (lv_room (by rw [List.map_map]; exact Nat.le_trans (Nat.le_of_eq (congrArg List.sum (List.map_congr_left fun v _ => zr_cat ad v))) hW)) hd ⟨h7, h8⟩)⟩
theorem z_statS (hG : zG x cc nL own ret) (As rest : List Value) (hC : zC (zl0 x) y bytes maxL ret' fr nc ns As dl σ (.inl v, dl', σ')) (hy : zY y bytes maxL ret' n) (hs : Cond.static y ∈ zT) (hl : Cond.methodLink own index y ∈ zT) (hd : decode cc pc = .ok (.invokestatic index, 3)) (hn : As.length = n) (hF : fr + 1 ≤ F)
    (hle : dl.length ≤ dl'.length) (hst : rest.all (zoks dl.length) = true) (hls : ls.all (fun q => zoks dl.length q.2) = true) (hA : A = A' + nc) (hB : B = B' + ns) (hW : (rest.map fun v => v.category).sum ≤ 8) (hstk : st = As.reverse ++ rest) (h2 : v.toList ++ rest = st2)
    (kk : zK x F (pc + 3) ls st2 dl' σ' A' B') : zK x F pc ls st dl σ A B := by
  subst hstk
  subst h2
  refine z_afterS hG  hle hst hls hA hB kk ?_
  obtain ⟨p, l, e, R, s, m, args, below, meth, c, D, ca, b0, ad0, n0, tg⟩ := x
  obtain ⟨hx, hb, hml, hown, hts, hret, hlk, htab, hKs, hOs, hfl⟩ := hG
  intro ad H locs la cells slots h1 h3 h4 h5 h7 h8 h6 h9 h10
  exact ⟨_, vx_runS ⟨hx, hb, rfl, hown, hts⟩ (hC D (zcs ca) b0 ad) ⟨zC_callB hts hy hl hF h9 h10, hts _ hs⟩ ⟨zC_blind, fun U hU hW => ⟨rfl, (zWD_ca zcs_lo).mpr ⟨by rw [hU]; exact h3, va_K.moved hW.alike hKs, h4, by rw [hU]; exact ((hOs.1.kept h5.1 h5.2.1).moved hW.alike).ad h1.hi⟩, (hOs.2.warm hW).ad h1.hi⟩⟩ rfl (by rw [List.length_map]; exact hn) h6 (by rw [List.map_append, List.map_reverse]) (lv_room (by rw [List.map_map]; exact Nat.le_trans (Nat.le_of_eq (congrArg List.sum (List.map_congr_left fun v _ => zr_cat ad v))) hW)) hd ⟨h7, h8⟩⟩
end ZGS
