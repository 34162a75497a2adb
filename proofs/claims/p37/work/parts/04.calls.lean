
def zY (y : MethodName) (cc : ByteArray) (maxL : Nat) (ret : Option FieldType) (n : Nat) : Prop := Cond.code y cc maxL ret ∈ zT ∧ Cond.initialized y.cls ∈ zT ∧ (y.cls ≠ "java/lang/invoke/MethodHandle" ∧ y.cls ≠ "java/lang/invoke/VarHandle") ∧ (parseMethodDescriptor y.desc).map (fun d => d.parameters.length) = some n ∧ maxL ≤ 31
def zok (n : Nat) : Value → Bool
  | .ref i => (decide (i < n) || decide (900 ≤ i)) && !(i == zF)
  | _ => true
theorem zok_zr {n : Nat} {ad ad' : Nat → Nat} {v : Value} (h : zad n ad ad') (hv : zok n v = true) : zr ad' v = zr ad v := by
  cases v with
  | ref i =>
    simp only [zok, Bool.and_eq_true, Bool.or_eq_true, decide_eq_true_eq, Bool.not_eq_true', beq_eq_false_iff_ne] at hv
    show Value.ref (ad' i) = Value.ref (ad i)
    rw [h i hv.1 hv.2]
  | _ => rfl
theorem zok_st {n : Nat} {ad ad' : Nat → Nat} {st : List Value} (h : zad n ad ad') (hv : st.all (zok n) = true) : st.map (zr ad') = st.map (zr ad) := List.map_congr_left fun v hm => zok_zr h (List.all_eq_true.mp hv v hm)
theorem zok_ls {n : Nat} {ad ad' : Nat → Nat} {ls : List (Nat × Value)} (h : zad n ad ad') (hv : ls.all (fun q => zok n q.2) = true) : zrl ad' ls = zrl ad ls := List.map_congr_left fun q hm => by rw [zok_zr h (List.all_eq_true.mp hv q hm)]
theorem zad.le {n n' : Nat} {a b : Nat → Nat} (h : zad n' a b) (hn : n ≤ n') : zad n a b := fun i hi hf => h i (hi.imp (fun q => Nat.lt_of_lt_of_le q hn) (fun q => q)) hf
theorem zC_blind {D : va_G} {ca : Nat → ClassId} {b0 : Nat} {ad : Nat → Nat} {av : List Value} {dl : List zDs} {σ : zS} : FrameBlind (va_Pc av (fun U => zWD D ca b0 ad dl σ U ∧ zRs ad U)) := by
  intro a U g mk q
  obtain ⟨q0, ⟨q1, q2, q3, q4⟩, q5⟩ := q
  exact ⟨q0, ⟨q1, va_K.moved (u := U) (U := U.calling g mk a) (Vm.Alike.refl U.vm) q2, q3, zO.moved (u := U) (U := U.calling g mk a) (Vm.Alike.refl U.vm) q4⟩, zRs.same (u := U) (U := U.calling g mk a) rfl q5⟩
theorem zC_callB {R : Room} {s : State} {args : Array Value} {own : String} {index : Nat} {y : MethodName} {bytes : ByteArray} {maxL : Nat} {ret : Option FieldType} {fr F nc ns n : Nat} (hts : ∀ w ∈ zT, w.before args s = true) (hy : zY y bytes maxL ret n) (hl : Cond.methodLink own index y ∈ zT) (hF : fr + 1 ≤ F) (h9 : 2 * F + 20 ≤ R.frames) (h10 : 50 * F + 200 ≤ R.locals) :
    CallB R s args own index y bytes maxL ret (.code y bytes maxL ret :: zT) (zrm fr nc ns) nc ns n := by
  obtain ⟨y1, y2, y3, y4, y5⟩ := hy
  refine ⟨rfl, rfl, ?_, ?_, ?_, List.mem_cons_self, hts _ y1, hts _ y2, y3, ?_, hts _ hl⟩
  · show 2 * fr + 20 + 1 ≤ R.frames
    omega
  · show 8 + (maxL + 11) + (50 * fr + 200) ≤ R.locals
    omega
  · exact pay_in hts (fun w h => by
      rcases List.mem_cons.mp h with rfl | h
      · exact ⟨y1, zT_good y1⟩
      · exact ⟨h, zT_good h⟩)
  · intro sig h
    rw [h] at y4
    exact (Option.some.inj y4).symm
/-- behind a run: the call returns -/
theorem z_after {x : zXx} {cc : ByteArray} {nL : Nat} {own : String} {ret : Option FieldType} {F pc : Nat} {ls : List (Nat × Value)} {st rest : List Value} {dl dl' : List zDs} {σ σ' : zS} {A B A' B' nc ns nn : Nat} {v : Option Value} (hG : zG x cc nL own ret)
    (hnn : nn ≤ dl.length) (hle : dl.length ≤ dl'.length) (hst : rest.all (zok nn) = true) (hls : ls.all (fun q => zok nn q.2) = true) (hA : A = A' + nc) (hB : B = B' + ns)
    (kk : zK x F (pc + 3) ls (v.toList ++ rest) dl' σ' A' B')
    (run : match x with | (p, l, e, R, s, m, args, below, meth, c, D, ca, b0, ad0, n0, tg) => ∀ (ad : Nat → Nat) (H : Heap) (locs : List Loc) (la : Array Slot) (cells slots : Nat), zad n0 ad0 ad → va_P D zcls (zws ad ca dl σ) H → va_D (zA b0) (zws ad ca dl σ) → va_S (zA b0) s.heap H locs → cells + nc ≤ R.cells → slots + ns ≤ R.slots → la.size = c.maxLocals → 2 * F + 20 ≤ R.frames → 50 * F + 200 ≤ R.locals → ∃ a, vx_Run p l e R s m args below meth c H locs cells slots nc ns (F0 m pc la (st.map (zr ad))) (rest.map (zr ad)) (zQc D ca b0 ad dl.length (.inl v, dl', σ') a) (zXc D ca b0 ad dl.length (.inl v, dl', σ')) (zA b0)) :
    zK x F pc ls st dl σ A B := by
  obtain ⟨p, l, e, R, s, m, args, below, meth, c, D, ca, b0, ad0, n0, tg⟩ := x
  obtain ⟨hx, hb, hml, hown, hts, hret, hlk, htab, hKs, hOs, hfl⟩ := hG
  intro ad H locs la cells slots h1 h2 h3 h4 h5 h6 h7 h8 h9 h10
  obtain ⟨aa, hr⟩ := run ad H locs la cells slots h1 h3 h4 h5 (by omega) (by omega) h6.1 h9 h10
  intro T hT X
  rcases hr T hT X with ⟨v1, st₀, t, T', L, h0, X', hL, e1, e2, ⟨⟨v2, ad', hv, ho, had, hw1, hw2, hw3, hw4⟩, hF⟩, go⟩ | ⟨q, st₀, t, T', L, E, ce, h0, X', hL, e1, e2, ⟨⟨ad', hv, -⟩, -⟩, -⟩
  · cases hv
    cases ho
    obtain ⟨k1, k2, k3⟩ := vx_keep h0 e1 h5 (fun q _ h => h) (fun q h => h) hL hF
    have hrest : rest.map (zr ad') = rest.map (zr ad) := zok_st (had.le hnn) hst
    have hlls : zrl ad' ls = zrl ad ls := zok_ls (had.le hnn) hls
    obtain ⟨t2, a1, b1⟩ := kk ad' T'.heap (locs ++ L) la (cells + nc) (slots + ns) (h1.tr h2 had) (Nat.le_trans h2 hle) (by rw [e1]; exact hw1) hw3 k3 (by rw [hlls]; exact h6) (by omega) (by omega) h9 h10 T' rfl X'
    refine ⟨t2, go t2 ?_, b1⟩
    rw [List.map_append, hrest] at a1
    cases v <;> exact a1
  · cases hv
theorem z_afterX {x : zXx} {cc : ByteArray} {nL : Nat} {own : String} {ret : Option FieldType} {F pc : Nat} {ls : List (Nat × Value)} {st rest : List Value} {dl dl' : List zDs} {σ σ' : zS} {A B nc ns : Nat} {E : String} (hG : zG x cc nL own ret)
    (hle : dl.length ≤ dl'.length) (hA : nc ≤ A) (hB : ns ≤ B) (htg : ztg x = (.inr E, dl', σ'))
    (run : match x with | (p, l, e, R, s, m, args, below, meth, c, D, ca, b0, ad0, n0, tg) => ∀ (ad : Nat → Nat) (H : Heap) (locs : List Loc) (la : Array Slot) (cells slots : Nat), zad n0 ad0 ad → va_P D zcls (zws ad ca dl σ) H → va_D (zA b0) (zws ad ca dl σ) → va_S (zA b0) s.heap H locs → cells + nc ≤ R.cells → slots + ns ≤ R.slots → la.size = c.maxLocals → 2 * F + 20 ≤ R.frames → 50 * F + 200 ≤ R.locals → ∃ a, vx_Run p l e R s m args below meth c H locs cells slots nc ns (F0 m pc la (st.map (zr ad))) (rest.map (zr ad)) (zQc D ca b0 ad dl.length (.inr E, dl', σ') a) (zXc D ca b0 ad dl.length (.inr E, dl', σ')) (zA b0)) :
    zK x F pc ls st dl σ A B := by
  obtain ⟨p, l, e, R, s, m, args, below, meth, c, D, ca, b0, ad0, n0, tg⟩ := x
  obtain ⟨hx, hb, hml, hown, hts, hret, hlk, htab, hKs, hOs, hfl⟩ := hG
  have htg : tg = (.inr E, dl', σ') := htg
  subst htg
  intro ad H locs la cells slots h1 h2 h3 h4 h5 h6 h7 h8 h9 h10
  obtain ⟨aa, hr⟩ := run ad H locs la cells slots h1 h3 h4 h5 (by omega) (by omega) h6.1 h9 h10
  intro T hT X
  rcases hr T hT X with ⟨v1, st₀, t, T', L, h0, X', hL, e1, e2, ⟨⟨v2, ad', hv, -⟩, -⟩, -⟩ | ⟨q, st₀, t, T', L, E', ce, h0, X', hL, e1, e2, ⟨⟨ad', hv, had, hw1, hw2, hw3, hw4⟩, hF⟩, hce, hcv, hcl, go⟩
  · cases hv
  · cases hv
    obtain ⟨k1, k2, k3⟩ := vx_keep h0 e1 h5 (fun q _ h => h) (fun q h => h) hL hF
    have kx : vx_W p l e R s m args below meth c T'.heap (locs ++ L) (cells + nc) (slots + ns) (vx_MQ below (zQc D ca b0 ad0 n0 (.inr E, dl', σ')) (zXc D ca b0 ad0 n0 (.inr E, dl', σ')) args s R.cells R.slots (zA b0)) (F0 m pc la (rest.map (zr ad))) q := by
      refine vx_out (fun z hz => (htab z hz).elim) hlk (ce := ce) (E := E) (by rw [e1]; exact hce) hcv hcl (fun t9 ht9 hal => ?_) k3.2.2 (by omega) (by omega)
      have hs9 : t9.heap = t.heap := ht9.trans e1
      exact ⟨⟨ad', rfl, h1.tr h2 had, by rw [hs9]; exact hw1, va_K.moved hal hKs, hw3, by
        have h2 := ((hOs.1.kept k3.1 k3.2.1).moved hal).ad (h1.tr h2 had).hi
        rw [ht9]; exact h2⟩, k3.F ht9⟩
    obtain ⟨t2, a1, b1⟩ := kx T' rfl X'
    exact ⟨t2, go.trans a1, b1⟩
section ZCall
variable {x : zXx} {cc bytes : ByteArray} {nL maxL : Nat} {own : String} {ret ret' : Option FieldType} {F fr pc : Nat} {ls : List (Nat × Value)} {rest : List Value} {dl dl' : List zDs} {σ σ' : zS} {A B A' B' nc ns n index : Nat} {y : MethodName} {v : Option Value} {E : String}
theorem z_static (hG : zG x cc nL own ret) (nn : Nat) (As : List Value) (hC : zC (zl0 x) y bytes maxL ret' fr nc ns As dl σ (.inl v, dl', σ')) (hy : zY y bytes maxL ret' n) (hs : Cond.static y ∈ zT) (hl : Cond.methodLink own index y ∈ zT) (hd : decode cc pc = .ok (.invokestatic index, 3)) (hn : As.length = n) (hF : fr + 1 ≤ F)
    (hnn : nn ≤ dl.length) (hle : dl.length ≤ dl'.length) (hst : rest.all (zok nn) = true) (hls : ls.all (fun q => zok nn q.2) = true) (hA : A = A' + nc) (hB : B = B' + ns) (hW : (rest.map fun v => v.category).sum ≤ 8)
    (kk : zK x F (pc + 3) ls (v.toList ++ rest) dl' σ' A' B') : zK x F pc ls (As.reverse ++ rest) dl σ A B := by
  refine z_after hG hnn hle hst hls hA hB kk ?_
  obtain ⟨p, l, e, R, s, m, args, below, meth, c, D, ca, b0, ad0, n0, tg⟩ := x
  obtain ⟨hx, hb, hml, hown, hts, hret, hlk, htab, hKs, hOs, hfl⟩ := hG
  intro ad H locs la cells slots h1 h3 h4 h5 h7 h8 h6 h9 h10
  exact ⟨_, vx_runS ⟨hx, hb, rfl, hown, hts⟩ (hC D ca b0 ad) ⟨zC_callB hts hy hl hF h9 h10, hts _ hs⟩ ⟨zC_blind, fun U hU hW => ⟨rfl, ⟨by rw [hU]; exact h3, va_K.moved hW.alike hKs, h4, by rw [hU]; exact ((hOs.1.kept h5.1 h5.2.1).moved hW.alike).ad h1.hi⟩, (hOs.2.warm hW).ad h1.hi⟩⟩ rfl (by rw [List.length_map]; exact hn) h6 (by rw [List.map_append, List.map_reverse]) (lv_room (by rw [List.map_map]; exact Nat.le_trans (Nat.le_of_eq (congrArg List.sum (List.map_congr_left fun v _ => zr_cat ad v))) hW)) hd ⟨h7, h8⟩⟩
theorem z_staticX (hG : zG x cc nL own ret) (As : List Value) (hC : zC (zl0 x) y bytes maxL ret' fr nc ns As dl σ (.inr E, dl', σ')) (hy : zY y bytes maxL ret' n) (hs : Cond.static y ∈ zT) (hl : Cond.methodLink own index y ∈ zT) (hd : decode cc pc = .ok (.invokestatic index, 3)) (hn : As.length = n) (hF : fr + 1 ≤ F)
    (hle : dl.length ≤ dl'.length) (hA : nc ≤ A) (hB : ns ≤ B) (hW : (rest.map fun v => v.category).sum ≤ 8) (htg : ztg x = (.inr E, dl', σ')) : zK x F pc ls (As.reverse ++ rest) dl σ A B := by
  refine z_afterX (rest := rest) hG hle hA hB htg ?_
  obtain ⟨p, l, e, R, s, m, args, below, meth, c, D, ca, b0, ad0, n0, tg⟩ := x
  obtain ⟨hx, hb, hml, hown, hts, hret, hlk, htab, hKs, hOs, hfl⟩ := hG
  intro ad H locs la cells slots h1 h3 h4 h5 h7 h8 h6 h9 h10
  exact ⟨_, vx_runS ⟨hx, hb, rfl, hown, hts⟩ (hC D ca b0 ad) ⟨zC_callB hts hy hl hF h9 h10, hts _ hs⟩ ⟨zC_blind, fun U hU hW => ⟨rfl, ⟨by rw [hU]; exact h3, va_K.moved hW.alike hKs, h4, by rw [hU]; exact ((hOs.1.kept h5.1 h5.2.1).moved hW.alike).ad h1.hi⟩, (hOs.2.warm hW).ad h1.hi⟩⟩ rfl (by rw [List.length_map]; exact hn) h6 (by rw [List.map_append, List.map_reverse]) (lv_room (by rw [List.map_map]; exact Nat.le_trans (Nat.le_of_eq (congrArg List.sum (List.map_congr_left fun v _ => zr_cat ad v))) hW)) hd ⟨h7, h8⟩⟩
theorem z_virt {ci i N : Nat} {C : String} {T : u_T} {fl : List (Nat × Nat)} (hG : zG x cc nL own ret) (nn : Nat) (As : List Value) (hc : zcls[ci]? = some (C, T, N)) (hi : dl[i]? = some (.inl (ci, fl))) (hC : zC (zl0 x) y bytes maxL ret' fr nc ns (.ref i :: As) dl σ (.inl v, dl', σ')) (hy : zY y bytes maxL ret' n) (hs : Cond.instanceMethod y ∈ zT ∧ Cond.selects C y y ∈ zT) (hl : Cond.methodLink own index y ∈ zT) (hd : decode cc pc = .ok (.invokevirtual index, 3)) (hn : As.length = n) (hF : fr + 1 ≤ F)
    (hnn : nn ≤ dl.length) (hle : dl.length ≤ dl'.length) (hst : rest.all (zok nn) = true) (hls : ls.all (fun q => zok nn q.2) = true) (hA : A = A' + nc) (hB : B = B' + ns) (hW : (rest.map fun v => v.category).sum ≤ 8)
    (kk : zK x F (pc + 3) ls (v.toList ++ rest) dl' σ' A' B') : zK x F pc ls (As.reverse ++ .ref i :: rest) dl σ A B := by
  refine z_after hG hnn hle hst hls hA hB kk ?_
  obtain ⟨p, l, e, R, s, m, args, below, meth, c, D, ca, b0, ad0, n0, tg⟩ := x
  obtain ⟨hx, hb, hml, hown, hts, hret, hlk, htab, hKs, hOs, hfl⟩ := hG
  intro ad H locs la cells slots h1 h3 h4 h5 h7 h8 h6 h9 h10
  exact ⟨_, vx_runV (C := C) (As := As.map (zr ad)) ⟨hx, hb, rfl, hown, hts⟩ (hC D ca b0 ad) ⟨zC_callB hts hy hl hF h9 h10, hts _ hs.1, hts _ hs.2⟩ ⟨zC_blind, va_recv hKs h3 hc (zws_at hi), fun U hU hW => ⟨rfl, ⟨by rw [hU]; exact h3, va_K.moved hW.alike hKs, h4, by rw [hU]; exact ((hOs.1.kept h5.1 h5.2.1).moved hW.alike).ad h1.hi⟩, (hOs.2.warm hW).ad h1.hi⟩⟩ rfl (by rw [List.length_map]; exact hn) h6 (by rw [List.map_append, List.map_reverse]; rfl) (lv_room (by rw [List.map_map]; exact Nat.le_trans (Nat.le_of_eq (congrArg List.sum (List.map_congr_left fun v _ => zr_cat ad v))) hW)) hd ⟨h7, h8⟩⟩
theorem z_virtX {ci i N : Nat} {C : String} {T : u_T} {fl : List (Nat × Nat)} (hG : zG x cc nL own ret) (As : List Value) (hc : zcls[ci]? = some (C, T, N)) (hi : dl[i]? = some (.inl (ci, fl))) (hC : zC (zl0 x) y bytes maxL ret' fr nc ns (.ref i :: As) dl σ (.inr E, dl', σ')) (hy : zY y bytes maxL ret' n) (hs : Cond.instanceMethod y ∈ zT ∧ Cond.selects C y y ∈ zT) (hl : Cond.methodLink own index y ∈ zT) (hd : decode cc pc = .ok (.invokevirtual index, 3)) (hn : As.length = n) (hF : fr + 1 ≤ F)
    (hle : dl.length ≤ dl'.length) (hA : nc ≤ A) (hB : ns ≤ B) (hW : (rest.map fun v => v.category).sum ≤ 8) (htg : ztg x = (.inr E, dl', σ')) : zK x F pc ls (As.reverse ++ .ref i :: rest) dl σ A B := by
  refine z_afterX (rest := rest) hG hle hA hB htg ?_
  obtain ⟨p, l, e, R, s, m, args, below, meth, c, D, ca, b0, ad0, n0, tg⟩ := x
  obtain ⟨hx, hb, hml, hown, hts, hret, hlk, htab, hKs, hOs, hfl⟩ := hG
  intro ad H locs la cells slots h1 h3 h4 h5 h7 h8 h6 h9 h10
  exact ⟨_, vx_runV (C := C) (As := As.map (zr ad)) ⟨hx, hb, rfl, hown, hts⟩ (hC D ca b0 ad) ⟨zC_callB hts hy hl hF h9 h10, hts _ hs.1, hts _ hs.2⟩ ⟨zC_blind, va_recv hKs h3 hc (zws_at hi), fun U hU hW => ⟨rfl, ⟨by rw [hU]; exact h3, va_K.moved hW.alike hKs, h4, by rw [hU]; exact ((hOs.1.kept h5.1 h5.2.1).moved hW.alike).ad h1.hi⟩, (hOs.2.warm hW).ad h1.hi⟩⟩ rfl (by rw [List.length_map]; exact hn) h6 (by rw [List.map_append, List.map_reverse]; rfl) (lv_room (by rw [List.map_map]; exact Nat.le_trans (Nat.le_of_eq (congrArg List.sum (List.map_congr_left fun v _ => zr_cat ad v))) hW)) hd ⟨h7, h8⟩⟩
end ZCall
