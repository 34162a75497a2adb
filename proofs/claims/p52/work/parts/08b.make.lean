
/-! ===== making cells; constructors; methods that catch ===== -/
theorem vx_toMet {l : Launch} {y : MethodName} {ws : List Cond} {rm : Room} {Pc : Array Value → State → Prop} {Qc : Array Value → State → Outcome → State → Prop} {XC : String → State → State → Prop} {mc ms : Nat} {free : Addr → Prop} (hM : vx_Met l y ws rm Pc Qc XC mc ms free) (hx : ∀ E st t, ¬ XC E st t) : Met l y ws rm Pc Qc mc ms free := by
  intro p e ha hc hk s m args below hf happ hP hK
  obtain ⟨n, o, h1, h2, h3, h4⟩ := hM p e ha hc hk s m args below hf happ hP hK
  refine ⟨n, o, h1, h2, h3, ?_⟩
  rcases h4 with h4 | ⟨q, -, E, ce, L, hX, -⟩
  · exact h4
  · exact (hx _ _ _ hX).elim
def znst : List Cond := [.methodLinkNest RX10 9 yX9_init RX10, .methodLinkNest RX10 18 yX6_init RX10, .methodLinkNest RX10 55 yX8_init RX10]
/-- what the constructor of the class and the law's catching methods need beside: nest mates, classes that are no others -/
def zPx (U : State) : Prop := True ∧ ∀ w ∈ znst, va_Nw w U
theorem zPx.same {u U : State} (hv : U.vm = u.vm) (h : zPx u) : zPx U := ⟨trivial, fun w hw => va_Nw.same (by revert w; decide) hv.symm (h.2 w hw)⟩
theorem zPx.warm {s U : State} (hW : s.WarmedH U.vm) (h : zPx s) : zPx U := ⟨trivial, fun w hw => by
  rcases List.mem_cons.mp hw with rfl | hw
  · exact va_Nw.warmM hW (h.2 _ (by simp [znst]))
  rcases List.mem_cons.mp hw with rfl | hw
  · exact va_Nw.warmM hW (h.2 _ (by simp [znst]))
  rcases List.mem_cons.mp hw with rfl | hw
  · exact va_Nw.warmM hW (h.2 _ (by simp [znst]))
  · cases hw⟩
def zput (ad : Nat → Nat) (i q : Nat) : Nat → Nat := fun j => if j = i then q else ad j
theorem zput_i {ad : Nat → Nat} {i q : Nat} : zput ad i q i = q := if_pos rfl
theorem zput_n {ad : Nat → Nat} {i q j : Nat} (h : j ≠ i) : zput ad i q j = ad j := if_neg h
/-- a cell that does not name the cell i -/
def zrokb (i : Nat) : zDs → Bool
  | .inl (_, fl) => fl.all (fun q => (q.1 != 1 || q.2 != i) && (q.1 != 2 || (i != 24 && i != 25)))
  | .inr (t, b) => decide (t < 7) || (decide (i < b) || decide (b + t ≤ i + 7))
theorem zsp_or (σ : zS) (c : Nat) : zsp σ c = 24 ∨ zsp σ c = 25 := by
  unfold zsp
  split
  · exact Or.inl rfl
  · exact Or.inr rfl
theorem zcell_put {ad : Nat → Nat} {ca : Nat → ClassId} {σ : zS} {i j q : Nat} {d : zDs} (h : zrokb i d = true) : zcell (zput ad i q) ca σ j d = zcell ad ca σ j d := by
  rcases d with ⟨ci, fl⟩ | ⟨t, n⟩
  · show (Sum.inr (ci, _) : va_E) = Sum.inr (ci, _)
    congr 2
    apply List.ext_getElem?
    intro k
    simp only [List.getElem?_mapIdx]
    cases hk : fl[k]? with
    | none => rfl
    | some z =>
      obtain ⟨a, b⟩ := z
      have h1 := List.all_eq_true.mp h (a, b) (List.mem_of_getElem? hk)
      simp only [Bool.and_eq_true, Bool.or_eq_true, bne_iff_ne] at h1
      rcases a with _ | _ | _ | a
      · rfl
      · show some (Value.ref (zput ad i q b)) = some (Value.ref (ad b))
        rw [zput_n (h1.1.resolve_left (fun z => z rfl))]
      · show some (Value.ref (zput ad i q (zsp σ b))) = some (Value.ref (ad (zsp σ b)))
        have h2 := h1.2.resolve_left (fun z => z rfl)
        rw [zput_n]
        rcases zsp_or σ b with e | e
        · rw [e]; exact fun z => h2.1 z.symm
        · rw [e]; exact fun z => h2.2 z.symm
      · rfl
  · rcases t with _ | _ | _ | _ | _ | _ | _ | t
    · rfl
    · rfl
    · rfl
    · rfl
    · rfl
    · rfl
    · rfl
    · show (Sum.inl (ca 4, t, .inr (.inr (.inr (.inr (fun j => if j < t then some (zput ad i q (n + j)) else none))))) : va_E) = Sum.inl (ca 4, t, .inr (.inr (.inr (.inr (fun j => if j < t then some (ad (n + j)) else none)))))
      have h1 : (decide (t + 7 < 7) || (decide (i < n) || decide (n + (t + 7) ≤ i + 7))) = true := h
      rw [decide_eq_false (by omega), Bool.false_or, Bool.or_eq_true, decide_eq_true_eq, decide_eq_true_eq] at h1
      have e : (fun j => if j < t then some (zput ad i q (n + j)) else none) = (fun j => if j < t then some (ad (n + j)) else none) := by
        funext j
        by_cases hj : j < t
        · rw [if_pos hj, if_pos hj, zput_n (by omega)]
        · rw [if_neg hj, if_neg hj]
      rw [e]
theorem zws_put {ad : Nat → Nat} {ca : Nat → ClassId} {dl : List zDs} {σ : zS} {i q : Nat} (hr : dl.all (zrokb i) = true) (hi : dl.length ≤ i) : zws (zput ad i q) ca dl σ = zws ad ca dl σ := by
  apply List.ext_getElem?
  intro j
  simp only [zws, List.getElem?_mapIdx]
  cases hj : dl[j]? with
  | none => rfl
  | some d =>
    have hjl := (List.getElem?_eq_some_iff.mp hj).1
    show some (zput ad i q j, zcell (zput ad i q) ca σ j d) = some (ad j, zcell ad ca σ j d)
    rw [zcell_put (List.all_eq_true.mp hr d (List.mem_of_getElem? hj)), zput_n (by omega)]
theorem zws_push {ad : Nat → Nat} {ca : Nat → ClassId} {dl : List zDs} {σ : zS} {d : zDs} {i q : Nat} (hi : dl.length = i) (hr : dl.all (zrokb i) = true) : zws (zput ad i q) ca (dl ++ [d]) σ = zws ad ca dl σ ++ [(q, zcell (zput ad i q) ca σ i d)] := by
  subst hi
  show (dl ++ [d]).mapIdx _ = _
  rw [List.mapIdx_append]
  show zws (zput ad dl.length q) ca dl σ ++ [(zput ad dl.length q (0 + dl.length), zcell (zput ad dl.length q) ca σ (0 + dl.length) d)] = _
  rw [zws_put hr (Nat.le_refl _), Nat.zero_add, zput_i]
def zokn (i : Nat) : Value → Bool
  | .ref j => j != i
  | _ => true
theorem zokn_st {ad : Nat → Nat} {i q : Nat} {st : List Value} (h : st.all (zokn i) = true) : st.map (zr (zput ad i q)) = st.map (zr ad) := List.map_congr_left fun v hm => by
  have h1 := List.all_eq_true.mp h v hm
  cases v with
  | ref j => exact congrArg Value.ref (zput_n (bne_iff_ne.mp h1))
  | _ => rfl
theorem zokn_ls {ad : Nat → Nat} {i q : Nat} {ls : List (Nat × Value)} (h : ls.all (fun q => zokn i q.2) = true) : zrl (zput ad i q) ls = zrl ad ls := List.map_congr_left fun v hm => by
  have h1 := List.all_eq_true.mp h v hm
  obtain ⟨k, v⟩ := v
  cases v with
  | ref j => exact congrArg (fun z => (k, Value.ref z)) (zput_n (bne_iff_ne.mp h1))
  | _ => rfl
theorem zad_put {ca : Nat → ClassId} {n0 i q : Nat} {ad0 ad : Nat → Nat} (h : zad ca n0 ad0 ad) (hi : n0 ≤ i) (h9 : i < 900) : zad ca n0 ad0 (zput ad i q) := fun j hj hf => (zput_n (by omega)).trans (h j hj hf)
def zdv : Nat × Nat → Value
  | (0, _) => .int 0
  | (_, _) => .null
def zf0 (fl : List (Nat × Nat)) : Bool := fl.all (fun q => q.1 == 0 || q.1 == 3)
theorem zcell_f0 {ad : Nat → Nat} {ca : Nat → ClassId} {σ : zS} {i ci : Nat} {fl : List (Nat × Nat)} (hf : zf0 fl = true) (hz : ∀ k, σ.1 i k = 0) : zcell ad ca σ i (.inl (ci, fl)) = .inr (ci, fl.map zdv) := by
  show (Sum.inr (ci, _) : va_E) = Sum.inr (ci, _)
  congr 2
  apply List.ext_getElem?
  intro k
  rw [List.getElem?_mapIdx, List.getElem?_map]
  cases hk : fl[k]? with
  | none => rfl
  | some z =>
    obtain ⟨a, b⟩ := z
    have h1 := List.all_eq_true.mp hf (a, b) (List.mem_of_getElem? hk)
    simp only [Bool.or_eq_true, beq_iff_eq] at h1
    rcases h1 with h1 | h1
    · subst h1
      show some (Value.int (σ.1 i k)) = some (Value.int 0)
      rw [hz]
    · subst h1
      rfl
section ZMk
variable {x : zXx} {cc : ByteArray} {nL : Nat} {own : String} {ret : Option FieldType} {F pc : Nat} {ls : List (Nat × Value)} {st : List Value} {dl dl' : List zDs} {σ : zS} {A B A' B' : Nat}
theorem z_new {C : String} {T : u_T} {N ci index i : Nat} {fl : List (Nat × Nat)} (hG : zG x cc nL own ret) (hc : zcls[ci]? = some (C, T, N)) (hin : ∀ w ∈ u_ws C T N, w ∈ zT) (ty : Nat → FieldType) (hty : ∀ k, k < N → parseFieldDescriptor (T k).2.2.1 = some (ty k)) (hcl : Cond.classLink own index C ∈ zT) (hinst : Cond.instantiable C N ∈ zT) (hini : Cond.initialized C ∈ zT)
    (hi : dl.length = i) (hi9 : i < 900) (hr : dl.all (zrokb i) = true) (hz : ∀ k, σ.1 i k = 0) (hf : zf0 fl = true) (hfs : ∀ j, j < N → defaultValue (ty j) = vp_V (fl.map zdv) j) (hst : st.all (zokn i) = true) (hls : ls.all (fun q => zokn i q.2) = true) (hdl : dl ++ [.inl (ci, fl)] = dl') (hA : A = A' + 1) (hB : B = B' + N) (hd : decode cc pc = .ok (.new index, 3))
    (kk : zK x F (pc + 3) ls (.ref i :: st) dl' σ A' B') : zK x F pc ls st dl σ A B := by
  obtain ⟨p, l, e, R, s, m, args, below, meth, c, D, ca, b0, ad0, n0, tg⟩ := x
  obtain ⟨hx, hb, hml, hown, hts, hret, hlk, htab, hKs, hOs, hfl⟩ := hG
  intro ad H locs la cells slots h1 h2 h3 h4 h5 h6 h7 h8 h9 h10
  subst hdl
  refine va_new (ci := ci) (fs := fl.map zdv) (C := C) (T := T) (N := N) hx hb hts hin ty hty hown (hts _ hcl) (hts _ hinst) (hts _ hini) hKs h3 h4 h5 (fun q hq => hOs.1.1 q hq) hc hfs (by omega) (by omega) hd (fun q H1 g1 g2 g3 => ?_)
  have ez : zws (zput ad i q) ca (dl ++ [.inl (ci, fl)]) σ = zws ad ca dl σ ++ [(q, .inr (ci, fl.map zdv))] := by rw [zws_push hi hr, zcell_f0 hf hz]
  rw [← ez] at g1 g2
  have hn : (dl ++ [(.inl (ci, fl) : zDs)]).length = dl.length + 1 := by simp
  have k2 := kk (zput ad i q) H1 locs la (cells + 1) (slots + N) (zad_put h1 (by omega) hi9) (by rw [hn]; omega) g1 g2 g3 (by rw [zokn_ls hls]; exact h6) (by omega) (by omega) h9 h10
  rw [List.map_cons, zokn_st hst] at k2
  show W p l e R s m args below meth c H1 locs (cells + 1) (slots + N) _ (F0 m (pc + 3) la (.ref q :: _))
  have e2 : zr (zput ad i q) (.ref i) = .ref q := congrArg Value.ref zput_i
  rw [e2] at k2
  exact k2
/-- a new row -/
theorem z_newa {atype : ArrayType} {ty : FieldType} {t N i : Nat} {n : Int32} {dsc : zDs} {z : vp_A} (hG : zG x cc nL own ret) (harr : Cond.arrayClass (newarray.typeOf atype) ∈ zT) (hty : newarray.typeOf atype = ty) (htk : ∀ ca : Nat → ClassId, (ztys ca)[t]? = some (ca t, ty)) (hob : refKind ty = false) (hra : ∀ (U : State) (cA : ClassId), va_RA U cA ty ↔ U.vm.findClass ("[" ++ ty.toString) = some cA)
    (hi : dl.length = i) (hi9 : i < 900) (hr : dl.all (zrokb i) = true) (hcell : ∀ (ad : Nat → Nat) (ca : Nat → ClassId), zcell ad ca σ i dsc = .inl (ca t, z)) (ha : ∀ cA : ClassId, vp_cell cA z = arrV cA N (fun _ => defaultValue ty)) (hnn : ¬ n < 0) (hN : n.toNatClampNeg = N) (hbytes : N * componentBytes ty ≤ 536870912)
    (hst : st.all (zokn i) = true) (hls : ls.all (fun q => zokn i q.2) = true) (hdl : dl ++ [dsc] = dl') (hA : A = A' + 1) (hB : B = B' + N) (hd : decode cc pc = .ok (.newarray atype, 2))
    (kk : zK x F (pc + 2) ls (.ref i :: st) dl' σ A' B') : zK x F pc ls (.int n :: st) dl σ A B := by
  obtain ⟨p, l, e, R, s, m, args, below, meth, c, D, ca, b0, ad0, n0, tg⟩ := x
  obtain ⟨hx, hb, hml, hown, hts, hret, hlk, htab, hKs, hOs, hfl⟩ := hG
  intro ad H locs la cells slots h1 h2 h3 h4 h5 h6 h7 h8 h9 h10
  subst hdl
  refine va_newa (a0 := z) hx hb (hts _ harr) hty hKs h3 h4 h5 (fun q hq => hOs.1.1 q hq) ha hnn hN hbytes (by omega) (by omega) hd (fun q cA H1 gK g1 g2 g3 => ?_)
  have hk1 := (hra s cA).mp (gK.2 5 (cA, ty) rfl).2
  have hk2 := (hra s (ca t)).mp (hKs.2 t (ca t, ty) (htk ca)).2
  have hca : cA = ca t := Option.some.inj (hk1.symm.trans hk2)
  subst hca
  have ez : zws (zput ad i q) ca (dl ++ [dsc]) σ = zws ad ca dl σ ++ [(q, .inl (ca t, z))] := by rw [zws_push hi hr, hcell]
  rw [← ez] at g1 g2
  have hn : (dl ++ [dsc]).length = dl.length + 1 := by simp
  have k2 := kk (zput ad i q) H1 locs la (cells + 1) (slots + N) (zad_put h1 (by omega) hi9) (by rw [hn]; omega) g1 g2 g3 (by rw [zokn_ls hls]; exact h6) (by omega) (by omega) h9 h10
  rw [List.map_cons, zokn_st hst] at k2
  have e2 : zr (zput ad i q) (.ref i) = .ref q := congrArg Value.ref zput_i
  rw [e2] at k2
  exact k2
theorem zcell_setf {ad : Nat → Nat} {ca : Nat → ClassId} {σ : zS} {i ci k : Nat} {fl : List (Nat × Nat)} {q : Nat × Nat} {v : Value} (hv : zfv ad σ i k q = v) : zcell ad ca σ i (.inl (ci, fl.set k q)) = .inr (ci, (fl.mapIdx (fun k q => zfv ad σ i k q)).set k v) := by
  subst hv
  show (Sum.inr (ci, _) : va_E) = Sum.inr (ci, _)
  congr 2
  apply List.ext_getElem?
  intro j
  rw [List.getElem?_mapIdx, List.getElem?_set, List.getElem?_set, List.getElem?_mapIdx, List.length_mapIdx]
  by_cases hj : k = j
  · subst hj
    rw [if_pos rfl, if_pos rfl]
    split <;> rfl
  · rw [if_neg hj, if_neg hj]
theorem zws_setd {ad : Nat → Nat} {ca : Nat → ClassId} {σ : zS} {i : Nat} {d : zDs} (hi : i < dl.length) : zws ad ca (dl.set i d) σ = (zws ad ca dl σ).set i (ad i, zcell ad ca σ i d) := by
  apply List.ext_getElem?
  intro j
  show ((dl.set i d).mapIdx _)[j]? = ((dl.mapIdx _).set i _)[j]?
  rw [List.getElem?_mapIdx, List.getElem?_set, List.getElem?_set, List.getElem?_mapIdx, List.length_mapIdx]
  by_cases hj : i = j
  · subst hj
    rw [if_pos rfl, if_pos rfl, if_pos hi, if_pos hi]
    rfl
  · rw [if_neg hj, if_neg hj]
theorem z_redesc {i : Nat} {d d' : zDs} (hi : dl[i]? = some d) (he : ∀ (ad : Nat → Nat) (ca : Nat → ClassId), zcell ad ca σ i d' = zcell ad ca σ i d) (hdl : dl.set i d' = dl') (k : zK x F pc ls st dl' σ A B) : zK x F pc ls st dl σ A B := by
  obtain ⟨p, l, e, R, s, m, args, below, meth, c, D, ca, b0, ad0, n0, tg⟩ := x
  intro ad H locs la cells slots h1 h2 h3 h4 h5 h6 h7 h8 h9 h10
  subst hdl
  have hz : zws ad ca (dl.set i d') σ = zws ad ca dl σ := by
    rw [zws_setd (List.getElem?_eq_some_iff.mp hi).1, he]
    apply List.ext_getElem?
    intro j
    rw [List.getElem?_set]
    by_cases hj : i = j
    · subst hj
      have h9 := zws_at (ad := ad) (ca := ca) (σ := σ) hi
      rw [if_pos rfl, if_pos (List.getElem?_eq_some_iff.mp h9).1, h9]
    · rw [if_neg hj]
  exact k ad H locs la cells slots h1 (by rw [List.length_set]; exact h2) (by rw [hz]; exact h3) (by rw [hz]; exact h4) h5 h6 h7 h8 h9 h10
/-- a reference put into a field -/
theorem z_putr {C ref : String} {T : u_T} {N ci i r index : Nat} {fl : List (Nat × Nat)} {q : Nat × Nat} (hG : zG x cc nL own ret) (hc : zcls[ci]? = some (C, T, N)) (hin : ∀ w ∈ u_ws C T N, w ∈ zT) (ty0 : Nat → FieldType) (hty : ∀ k, k < N → parseFieldDescriptor (T k).2.2.1 = some (ty0 k)) (hnm : ∀ a, a < N → ∀ b, b < N → a ≠ b → (T a).2.1 ≠ (T b).2.1) (hi : dl[i]? = some (.inl (ci, fl))) (k : Nat) (hk : k < N) (hkf : k < fl.length) (hr : (T k).1 = ref) (hq : ∀ ad : Nat → Nat, zfv ad σ i k q = .ref (ad r)) (hlink : Cond.fieldLink own index ref (T k).2.1 (T k).2.2.1 ∈ zT) (hfin : (T k).2.2.2 = false) (hn : ∀ a : Nat, narrow (ty0 k) (.ref a) = .ref a) (hfit : ∀ a : Nat, fits (ty0 k) (.ref a) = true) (hdl : dl.set i (.inl (ci, fl.set k q)) = dl') (hd : decode cc pc = .ok (.putfield index, 3))
    (kk : zK x F (pc + 3) ls st dl' σ A B) : zK x F pc ls (.ref r :: .ref i :: st) dl σ A B := by
  obtain ⟨p, l, e, R, s, m, args, below, meth, c, D, ca, b0, ad0, n0, tg⟩ := x
  obtain ⟨hx, hb, hml, hown, hts, hret, hlk, htab, hKs, hOs, hfl⟩ := hG
  intro ad H locs la cells slots h1 h2 h3 h4 h5 h6 h7 h8 h9 h10
  subst hdl
  refine va_put (D := D) (ci := ci) (v := .ref (ad r)) (ty := ty0 k) (C := C) (T := T) (N := N) hx hb hts hin ty0 hty hnm hown hKs h3 h4 h5 i (zws_at hi) hc k hk (hts _ hlink) (fun _ h9 => by rw [← hr]; exact h9) hfin (hty k hk) (hn _) (hfit _) (by rw [List.length_mapIdx]; exact hkf) hd (fun H1 locs1 g1 g2 g3 => ?_)
  rw [← zcell_setf (ca := ca) (hq ad), ← zws_setd (List.getElem?_eq_some_iff.mp hi).1] at g1 g2
  exact kk ad H1 locs1 la cells slots h1 (by rw [List.length_set]; exact h2) g1 g2 g3 h6 h7 h8 h9 h10
/-- the same of a final field, in its constructor -/
theorem z_putrF {C ref : String} {T : u_T} {N ci i r index : Nat} {fl : List (Nat × Nat)} {q : Nat × Nat} (hG : zG x cc nL own ret) (hnam : x.2.2.2.2.2.2.2.2.1.name = "<init>") (hc : zcls[ci]? = some (C, T, N)) (hin : ∀ w ∈ u_ws C T N, w ∈ zT) (ty0 : Nat → FieldType) (hty : ∀ k, k < N → parseFieldDescriptor (T k).2.2.1 = some (ty0 k)) (hnm : ∀ a, a < N → ∀ b, b < N → a ≠ b → (T a).2.1 ≠ (T b).2.1) (hi : dl[i]? = some (.inl (ci, fl))) (k : Nat) (hk : k < N) (hkf : k < fl.length) (hr : (T k).1 = ref) (hq : ∀ ad : Nat → Nat, zfv ad σ i k q = .ref (ad r)) (hlink : Cond.fieldLink own index ref (T k).2.1 (T k).2.2.1 ∈ zT) (hfin : (T k).2.2.2 = true) (hdec : (T k).1 = own) (hn : ∀ a : Nat, narrow (ty0 k) (.ref a) = .ref a) (hfit : ∀ a : Nat, fits (ty0 k) (.ref a) = true) (hdl : dl.set i (.inl (ci, fl.set k q)) = dl') (hd : decode cc pc = .ok (.putfield index, 3))
    (kk : zK x F (pc + 3) ls st dl' σ A B) : zK x F pc ls (.ref r :: .ref i :: st) dl σ A B := by
  obtain ⟨p, l, e, R, s, m, args, below, meth, c, D, ca, b0, ad0, n0, tg⟩ := x
  obtain ⟨hx, hb, hml, hown, hts, hret, hlk, htab, hKs, hOs, hfl⟩ := hG
  intro ad H locs la cells slots h1 h2 h3 h4 h5 h6 h7 h8 h9 h10
  subst hdl
  refine va_putF (D := D) (ci := ci) (v := .ref (ad r)) (ty := ty0 k) (C := C) (T := T) (N := N) hx hb hts hin ty0 hty hnm hown hKs h3 h4 h5 i (zws_at hi) hc k hk (hts _ hlink) (fun _ h9 => by rw [← hr]; exact h9) hfin hnam hdec (hty k hk) (hn _) (hfit _) (by rw [List.length_mapIdx]; exact hkf) hd (fun H1 locs1 g1 g2 g3 => ?_)
  rw [← zcell_setf (ca := ca) (hq ad), ← zws_setd (List.getElem?_eq_some_iff.mp hi).1] at g1 g2
  exact kk ad H1 locs1 la cells slots h1 (by rw [List.length_set]; exact h2) g1 g2 g3 h6 h7 h8 h9 h10
theorem z_objinit {index i : Nat} (hG : zG x cc nL own ret) (hlink : Cond.methodLink own index Lib.objectInit ∈ zT) (hinst : Cond.instanceMethod Lib.objectInit ∈ zT) (hcode : Cond.code Lib.objectInit ⟨#[0xb1]⟩ 1 none ∈ zT) (hW : (st.map fun v => v.category).sum ≤ 8) (hd : decode cc pc = .ok (.invokespecial index, 3))
    (kk : zK x F (pc + 3) ls st dl σ A B) : zK x F pc ls (.ref i :: st) dl σ A B := by
  obtain ⟨p, l, e, R, s, m, args, below, meth, c, D, ca, b0, ad0, n0, tg⟩ := x
  obtain ⟨hx, hb, hml, hown, hts, hret, hlk, htab, hKs, hOs, hfl⟩ := hG
  intro ad H locs la cells slots h1 h2 h3 h4 h5 h6 h7 h8 h9 h10
  have hsum : ((st.map (zr ad)).map fun v => v.category).sum ≤ 8 := by
    rw [List.map_map]
    exact Nat.le_trans (Nat.le_of_eq (congrArg List.sum (List.map_congr_left fun v _ => zr_cat ad v))) hW
  refine W.objInit hx hb hown (hts _ hlink) (hts _ hinst) (hts _ hcode) rfl h6.1 rfl hd (by omega) (by show 2 * 0 + _ + 12 ≤ _; omega) ?_
  exact kk ad H locs la cells slots h1 h2 h3 h4 h5 h6 h7 h8 h9 h10
end ZMk

theorem vx_ofRun {p : Program} {l : Launch} {e : Env} {R : Room} {s : State} {m : MethodId} {args : Array Value} {below : List Frame} {meth : Method} {c : Code} {H : Heap} {locs : List Loc} {cells slots mc ms : Nat} {g : JFrame} {rest : List Value} {Qa : State → Outcome → State → Prop} {XC : String → State → State → Prop} {free : Addr → Prop} (h : va_Run p l e R s m args below meth c H locs cells slots mc ms g rest Qa free) : vx_Run p l e R s m args below meth c H locs cells slots mc ms g rest Qa XC free := fun T hT X => Or.inl (h T hT X)
section ZSp
variable {x : zXx} {cc bytes : ByteArray} {nL maxL : Nat} {own : String} {ret : Option FieldType} {F fr pc : Nat} {ls : List (Nat × Value)} {rest st : List Value} {dl dl' : List zDs} {σ σ' : zS} {A B A' B' nc ns n index i : Nat} {y : MethodName}
/-- a constructor is run -/
theorem z_spec (hG : zG x cc nL own ret) (nn : Nat) (As : List Value) (hC : zC (zl0 x) y bytes maxL none fr nc ns (.ref i :: As) dl σ (.inl none, dl', σ')) (hy : zY y bytes maxL none n) (hy1 : y.name = "<init>") (hs : Cond.instanceMethod y ∈ zT) (hl : Cond.methodLink own index y ∈ zT) (hd : decode cc pc = .ok (.invokespecial index, 3)) (hn : As.length = n) (hF : fr + 1 ≤ F)
    (hnn : nn ≤ dl.length) (hle : dl.length ≤ dl'.length) (hst : rest.all (zok nn) = true) (hls : ls.all (fun q => zok nn q.2) = true) (hA : A = A' + nc) (hB : B = B' + ns) (hW : (rest.map fun v => v.category).sum ≤ 8) (hstk : st = As.reverse ++ .ref i :: rest)
    (kk : zK x F (pc + 3) ls rest dl' σ' A' B') : zK x F pc ls st dl σ A B := by
  subst hstk
  refine z_after (v := none) hG hnn hle hst hls hA hB kk ?_
  obtain ⟨p, l, e, R, s, m, args, below, meth, c, D, ca, b0, ad0, n0, tg⟩ := x
  obtain ⟨hx, hb, hml, hown, hts, hret, hlk, htab, hKs, hOs, hfl⟩ := hG
  intro ad H locs la cells slots h1 h3 h4 h5 h7 h8 h6 h9 h10
  exact ⟨_, vx_ofRun (va_runI (As := As.map (zr ad)) ⟨hx, hb, rfl, hown, hts⟩ (vx_toMet (hC D ca b0 ad) (fun E st t h => by obtain ⟨⟨ad', h1, -⟩, -⟩ := h; cases h1)) ⟨zC_callB hts hy hl hF h9 h10, hy1, hts _ hs⟩ ⟨zC_blind, fun U hU hW => ⟨rfl, ⟨by rw [hU]; exact h3, va_K.moved hW.alike hKs, h4, by rw [hU]; exact ((hOs.1.kept h5.1 h5.2.1).moved hW.alike).ad h1.hi⟩, (hOs.2.warm hW).ad h1.hi⟩⟩ rfl (by rw [List.length_map]; exact hn) h6 (by rw [List.map_append, List.map_reverse]; rfl) (lv_room (by rw [List.map_map]; exact Nat.le_trans (Nat.le_of_eq (congrArg List.sum (List.map_congr_left fun v _ => zr_cat ad v))) hW)) hd ⟨h7, h8⟩)⟩
/-- a nest mate's private one -/
theorem z_specN {host : String} (hG : zG x cc nL own ret) (hPx : zPx x.2.2.2.2.1) (hw : Cond.methodLinkNest own index y host ∈ znst) (nn : Nat) (As : List Value) (hC : zC (zl0 x) y bytes maxL none fr nc ns (.ref i :: As) dl σ (.inl none, dl', σ')) (hy : zY y bytes maxL none n) (hy1 : y.name = "<init>") (hs : Cond.instanceMethod y ∈ zT) (hd : decode cc pc = .ok (.invokespecial index, 3)) (hn : As.length = n) (hF : fr + 1 ≤ F)
    (hnn : nn ≤ dl.length) (hle : dl.length ≤ dl'.length) (hst : rest.all (zok nn) = true) (hls : ls.all (fun q => zok nn q.2) = true) (hA : A = A' + nc) (hB : B = B' + ns) (hW : (rest.map fun v => v.category).sum ≤ 8) (hstk : st = As.reverse ++ .ref i :: rest)
    (kk : zK x F (pc + 3) ls rest dl' σ' A' B') : zK x F pc ls st dl σ A B := by
  subst hstk
  refine z_after (v := none) hG hnn hle hst hls hA hB kk ?_
  obtain ⟨p, l, e, R, s, m, args, below, meth, c, D, ca, b0, ad0, n0, tg⟩ := x
  obtain ⟨hx, hb, hml, hown, hts, hret, hlk, htab, hKs, hOs, hfl⟩ := hG
  intro ad H locs la cells slots h1 h3 h4 h5 h7 h8 h6 h9 h10
  have hT : GoodIn zT (Cond.code y bytes maxL none :: zT) := fun w h => by
    rcases List.mem_cons.mp h with rfl | h
    · exact ⟨hy.1, zT_good hy.1⟩
    · exact ⟨h, zT_good h⟩
  exact ⟨_, vx_ofRun (va_runIN (As := As.map (zr ad)) ⟨hx, hb, rfl, hown, hts⟩ (vx_toMet (hC D ca b0 ad) (fun E st t h => by obtain ⟨⟨ad', h1, -⟩, -⟩ := h; cases h1)) ⟨va_cnB n hts hT rfl rfl rfl (hPx.2 _ hw) (hts _ hy.2.1) ⟨hy.2.2.1.1, hy.2.2.1.2, hy.2.2.2.1⟩ ⟨by show 2 * fr + 20 + 1 ≤ R.frames; omega, by show 8 + (maxL + 11) + (50 * fr + 200) ≤ R.locals; have := hy.2.2.2.2; omega⟩, hy1, hts _ hs⟩ ⟨zC_blind, fun U hU hW => ⟨rfl, ⟨by rw [hU]; exact h3, va_K.moved hW.alike hKs, h4, by rw [hU]; exact ((hOs.1.kept h5.1 h5.2.1).moved hW.alike).ad h1.hi⟩, (hOs.2.warm hW).ad h1.hi⟩⟩ rfl (by rw [List.length_map]; exact hn) h6 (by rw [List.map_append, List.map_reverse]; rfl) (lv_room (by rw [List.map_map]; exact Nat.le_trans (Nat.le_of_eq (congrArg List.sum (List.map_congr_left fun v _ => zr_cat ad v))) hW)) hd ⟨h7, h8⟩)⟩
end ZSp
/-! contracts that rest on zPx too: the class's constructor, the law's catching methods -/
def zCx (l : Launch) (y : MethodName) (hd : Cond) (fr nc ns : Nat) (av : List Value) (dl : List zDs) (σ : zS) (tg : zO3) : Prop :=
  ∀ (D : va_G) (ca : Nat → ClassId) (b0 : Nat → Prop) (ad : Nat → Nat), vx_Met l y (hd :: zT) (zrm fr nc ns) (va_Pc (av.map (zr ad)) (fun U => (zWD D ca b0 ad dl σ U ∧ zRs ad U) ∧ zPx U)) (zQc D ca b0 ad dl.length tg) (zXc D ca b0 ad dl.length tg) nc ns (zA b0)
theorem zCx_blind {D : va_G} {ca : Nat → ClassId} {b0 : Nat → Prop} {ad : Nat → Nat} {av : List Value} {dl : List zDs} {σ : zS} : FrameBlind (va_Pc av (fun U => (zWD D ca b0 ad dl σ U ∧ zRs ad U) ∧ zPx U)) := by
  intro a U g mk q
  obtain ⟨q0, ⟨⟨q1, q2, q3, q4⟩, q5⟩, q6⟩ := q
  exact ⟨q0, ⟨⟨q1, va_K.moved (u := U) (U := U.calling g mk a) (Vm.Alike.refl U.vm) q2, q3, zO.moved (u := U) (U := U.calling g mk a) (Vm.Alike.refl U.vm) q4⟩, zRs.same (u := U) (U := U.calling g mk a) rfl q5⟩, zPx.same (u := U) (U := U.calling g mk a) rfl q6⟩
theorem zCx_of {l : Launch} (hl : l.flags = flags0) {y : MethodName} {cc : ByteArray} {maxL : Nat} {ret : Option FieldType} {fr nc ns : Nat} {av : List Value} {dl : List zDs} {σ : zS} {tg : zO3} (hy : plainName y.cls = true) (hn : (lg_sl av).length ≤ maxL)
    (body : ∀ x : zXx, zG x cc maxL y.cls ret → zPx x.2.2.2.2.1 → zl0 x = l → ztg x = tg → x.2.2.2.2.2.2.2.2.1.name = y.name → zK x fr 0 (lv_args 0 av) [] dl σ nc ns) : zCx l y (.code y cc maxL ret) fr nc ns av dl σ tg := by
  intro D ca b0 ad
  refine vx_ofW (cc := cc) (maxL := maxL) (ret := ret) hy rfl ?_
  intro p e s m args below meth c s₁ B hml htab hv
  obtain ⟨rfl, ⟨⟨hP, hK, hD, hO⟩, hR⟩, hPx⟩ := hv
  have hts := atoms_spec (ws := .code y cc maxL ret :: zT) B.pre
  have hown : s.vm.findClass y.cls = some m.cls := findClass_of_methodNamed B.named
  have hin : meth.name = y.name := (name_of_methodNamed B.named B.method).1
  have hk := body (p, l, e, (headSpec (.code y cc maxL ret :: zT) (zrm fr nc ns)).room, s, m, (av.map (zr ad)).toArray, below, meth, c, D, ca, b0, ad, dl.length, tg) ⟨B.exec, B.bytes, hml, hown, fun w h => hts w (List.mem_cons_of_mem _ h), B.returns, B.notSynchronized, htab, hK, ⟨hO, hR⟩, hl⟩ hPx rfl rfl hin
  have hle := lv_entry (av.map (zr ad)) (n := maxL) (by rw [zr_len]; exact hn)
  rw [lg_entry_eq]
  generalize (lg_sl (av.map (zr ad)) ++ List.replicate (maxL - (lg_sl (av.map (zr ad))).length) Slot.unset).toArray = la at hle ⊢
  rw [zrl_args] at hle
  exact hk ad s.heap [] la 0 0 zad.rf (Nat.le_refl _) hP hD va_S.rf (by rw [hml]; exact hle) (by rw [Nat.zero_add]; exact Nat.le_refl _) (by rw [Nat.zero_add]; exact Nat.le_refl _) (Nat.le_refl _) (Nat.le_refl _)
