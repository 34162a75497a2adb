
/-! ===== a contract over the class's cells holds beside any other cells ===== -/
theorem met_cons {l : Launch} {y : MethodName} {ws : List Cond} {rm : Room} {Pc' : Array Value → State → Prop} {Qc' : Array Value → State → Outcome → State → Prop} {XC' : String → State → State → Prop} {mc ms : Nat} {free' : Addr → Prop}
    (h : ∀ a s, Pc' a s → ∃ (Pc : Array Value → State → Prop) (Qc : Array Value → State → Outcome → State → Prop) (XC : String → State → State → Prop) (free : Addr → Prop), vx_Met l y ws rm Pc Qc XC mc ms free ∧ Pc a s ∧ ∀ o t, vx_Q Qc XC mc ms free a s o t → vx_Q Qc' XC' mc ms free' a s o t) : vx_Met l y ws rm Pc' Qc' XC' mc ms free' := by
  intro p e hl hf hc s m args below hfr hsp hP hK
  obtain ⟨Pc, Qc, XC, free, hM, hp, hq⟩ := h args s hP
  obtain ⟨n, o, h1, h2, h3, h4⟩ := hM p e hl hf hc s m args below hfr hsp hp hK
  exact ⟨n, o, h1, h2, h3, hq _ _ h4⟩
def zmix (σ σ' : zS) : zS := (fun i => if i < 42 then σ'.1 i else σ.1 i, fun i => if i < 42 then σ'.2.1 i else σ.2.1 i, σ'.2.2)
theorem zmix_lo {σ σ' : zS} {i : Nat} (h : i < 42) : (zmix σ σ').1 i = σ'.1 i ∧ (zmix σ σ').2.1 i = σ'.2.1 i := ⟨if_pos h, if_pos h⟩
theorem zmix_hi {σ σ' : zS} {i : Nat} (h : 42 ≤ i) : (zmix σ σ').1 i = σ.1 i ∧ (zmix σ σ').2.1 i = σ.2.1 i := ⟨if_neg (Nat.not_lt_of_le h), if_neg (Nat.not_lt_of_le h)⟩
/-- a cell beside the class's: it names neither the cell 27 nor a swapped one, and is no growing row -/
def zfr1 : zDs → Bool
  | .inl (_, fl) => fl.all (fun q => q.1 != 2 && (q.1 != 1 || q.2 != 27))
  | .inr (4, _) => false
  | .inr (t, b) => decide (t < 7) || decide (28 ≤ b)
def zlow : zDs → Bool
  | .inl (_, fl) => fl.all (fun q => q.1 != 1 || decide (q.2 < 42))
  | .inr (t, _) => decide (t < 7)
theorem zDlow : zD.all zlow = true := by decide
theorem zws_get {ad : Nat → Nat} {ca : Nat → ClassId} {dl : List zDs} {σ : zS} {k : Nat} : (zws ad ca dl σ)[k]? = dl[k]?.map (fun d => (ad k, zcell ad ca σ k d)) := by
  simp [zws, List.getElem?_mapIdx]
theorem zws_out {ad : Nat → Nat} {ca : Nat → ClassId} {dl : List zDs} {σ : zS} {k : Nat} {q : Nat × va_E} (h : (zws ad ca dl σ)[k]? = some q) : ∃ d, dl[k]? = some d ∧ q = (ad k, zcell ad ca σ k d) := by
  rw [zws_get] at h
  cases hd : dl[k]? with
  | none => rw [hd] at h; cases h
  | some d => rw [hd] at h; exact ⟨d, rfl, (Option.some.inj h).symm⟩
theorem zDE_lo {E : List zDs} {k : Nat} (h : k < 42) : (zD ++ E)[k]? = zD[k]? := List.getElem?_append_left (by rw [zD_n]; exact h)
theorem zDE_hi {E : List zDs} {k : Nat} : (zD ++ E)[42 + k]? = E[k]? := by
  rw [List.getElem?_append_right (by rw [zD_n]; omega), zD_n]
  congr 1
  omega
theorem zD_lt {k : Nat} {d : zDs} (h : zD[k]? = some d) : k < 42 := by
  have := (List.getElem?_eq_some_iff.mp h).1
  rwa [zD_n] at this
def zad2 (ad ad' : Nat → Nat) : Nat → Nat := fun i => if 42 ≤ i ∧ i < 900 then ad i else ad' i
theorem zad2_lo {ad ad' : Nat → Nat} {i : Nat} (h : i < 42) : zad2 ad ad' i = ad' i := if_neg (fun q => by omega)
theorem zad2_hi {ca : Nat → ClassId} {ad ad' : Nat → Nat} (h : zad ca 42 ad ad') {i : Nat} (hi : 42 ≤ i) : zad2 ad ad' i = ad i := by
  unfold zad2
  by_cases h9 : i < 900
  · exact if_pos ⟨hi, h9⟩
  · rw [if_neg (fun q => h9 q.2)]
    exact h i (.inr (by omega)) (.inl (zMv_no (by omega) (by omega) (by omega)))
theorem zad2_n {ca : Nat → ClassId} {ad ad' : Nat → Nat} (h : zad ca 42 ad ad') {i : Nat} (hi : i ≠ 27) : zad2 ad ad' i = ad i := by
  by_cases h4 : i < 42
  · rw [zad2_lo h4]; exact h i (.inl h4) (.inl (zMv_no hi (by omega) (by omega)))
  · exact zad2_hi h (by omega)
theorem zcell_lo {ad ad' : Nat → Nat} {ca : Nat → ClassId} {σ σ' : zS} {k : Nat} (hk : k < 42) {d : zDs} (hd : zlow d = true) : zcell (zad2 ad ad') ca (zmix σ σ') k d = zcell ad' ca σ' k d := by
  have e := zmix_lo (σ := σ) (σ' := σ') hk
  rcases d with ⟨ci, fl⟩ | ⟨t, n⟩
  · show (Sum.inr (ci, _) : va_E) = Sum.inr (ci, _)
    congr 2
    apply List.ext_getElem?
    intro j
    simp only [List.getElem?_mapIdx]
    cases hj : fl[j]? with
    | none => rfl
    | some z =>
      obtain ⟨a, b⟩ := z
      have h1 := List.all_eq_true.mp hd (a, b) (List.mem_of_getElem? hj)
      simp only [Bool.or_eq_true, bne_iff_ne, decide_eq_true_eq] at h1
      rcases a with _ | _ | _ | a
      · show some (Value.int ((zmix σ σ').1 k j)) = some (Value.int (σ'.1 k j))
        rw [e.1]
      · show some (Value.ref (zad2 ad ad' b)) = some (Value.ref (ad' b))
        rw [zad2_lo (h1.resolve_left (fun z => z rfl))]
      · show some (Value.ref (zad2 ad ad' (zsp σ' b))) = some (Value.ref (ad' (zsp σ' b)))
        rcases zsp_or σ' b with e | e
        · rw [e]; exact congrArg _ (congrArg _ (zad2_lo (by decide)))
        · rw [e]; exact congrArg _ (congrArg _ (zad2_lo (by decide)))
      · rfl
  · rcases t with _ | _ | _ | _ | _ | _ | _ | t
    · show (Sum.inl (ca 0, n, Sum.inl ((zmix σ σ').1 k)) : va_E) = Sum.inl (ca 0, n, Sum.inl (σ'.1 k))
      rw [e.1]
    · show (Sum.inl (ca 1, n, Sum.inl ((zmix σ σ').1 k)) : va_E) = Sum.inl (ca 1, n, Sum.inl (σ'.1 k))
      rw [e.1]
    · show (Sum.inl (ca 2, n, Sum.inl ((zmix σ σ').1 k)) : va_E) = Sum.inl (ca 2, n, Sum.inl (σ'.1 k))
      rw [e.1]
    · show (Sum.inl (ca 3, n, Sum.inr (.inl ((zmix σ σ').2.1 k))) : va_E) = Sum.inl (ca 3, n, Sum.inr (.inl (σ'.2.1 k)))
      rw [e.2]
    · show (Sum.inl (ca 0, σ'.2.2.2, Sum.inl ((zmix σ σ').1 k)) : va_E) = Sum.inl (ca 0, σ'.2.2.2, Sum.inl (σ'.1 k))
      rw [e.1]
    · show (Sum.inl (ca 1, ((zmix σ σ').2.1 k 0).toNatClampNeg, Sum.inl ((zmix σ σ').1 k)) : va_E) = Sum.inl (ca 1, (σ'.2.1 k 0).toNatClampNeg, Sum.inl (σ'.1 k))
      rw [e.1, e.2]
    · show (Sum.inl (ca 0, ((zmix σ σ').2.1 k 0).toNatClampNeg, Sum.inl ((zmix σ σ').1 k)) : va_E) = Sum.inl (ca 0, (σ'.2.1 k 0).toNatClampNeg, Sum.inl (σ'.1 k))
      rw [e.1, e.2]
    · have h7 : t + 7 < 7 := of_decide_eq_true (show decide (t + 7 < 7) = true from hd)
      omega
theorem zcell_hi {ca0 : Nat → ClassId} {ad ad' : Nat → Nat} (ha : zad ca0 42 ad ad') {ca : Nat → ClassId} {σ σ' : zS} {k : Nat} (hk : 42 ≤ k) {d : zDs} (hd : zfr1 d = true) : zcell (zad2 ad ad') ca (zmix σ σ') k d = zcell ad ca σ k d := by
  have e := zmix_hi (σ := σ) (σ' := σ') hk
  rcases d with ⟨ci, fl⟩ | ⟨t, n⟩
  · show (Sum.inr (ci, _) : va_E) = Sum.inr (ci, _)
    congr 2
    apply List.ext_getElem?
    intro j
    simp only [List.getElem?_mapIdx]
    cases hj : fl[j]? with
    | none => rfl
    | some z =>
      obtain ⟨a, b⟩ := z
      have h1 := List.all_eq_true.mp hd (a, b) (List.mem_of_getElem? hj)
      simp only [Bool.and_eq_true, Bool.or_eq_true, bne_iff_ne] at h1
      rcases a with _ | _ | _ | a
      · show some (Value.int ((zmix σ σ').1 k j)) = some (Value.int (σ.1 k j))
        rw [e.1]
      · show some (Value.ref (zad2 ad ad' b)) = some (Value.ref (ad b))
        rw [zad2_n ha (h1.2.resolve_left (fun z => z rfl))]
      · exact (h1.1 rfl).elim
      · rfl
  · rcases t with _ | _ | _ | _ | _ | _ | _ | t
    · show (Sum.inl (ca 0, n, Sum.inl ((zmix σ σ').1 k)) : va_E) = Sum.inl (ca 0, n, Sum.inl (σ.1 k))
      rw [e.1]
    · show (Sum.inl (ca 1, n, Sum.inl ((zmix σ σ').1 k)) : va_E) = Sum.inl (ca 1, n, Sum.inl (σ.1 k))
      rw [e.1]
    · show (Sum.inl (ca 2, n, Sum.inl ((zmix σ σ').1 k)) : va_E) = Sum.inl (ca 2, n, Sum.inl (σ.1 k))
      rw [e.1]
    · show (Sum.inl (ca 3, n, Sum.inr (.inl ((zmix σ σ').2.1 k))) : va_E) = Sum.inl (ca 3, n, Sum.inr (.inl (σ.2.1 k)))
      rw [e.2]
    · cases hd
    · show (Sum.inl (ca 1, ((zmix σ σ').2.1 k 0).toNatClampNeg, Sum.inl ((zmix σ σ').1 k)) : va_E) = Sum.inl (ca 1, (σ.2.1 k 0).toNatClampNeg, Sum.inl (σ.1 k))
      rw [e.1, e.2]
    · show (Sum.inl (ca 0, ((zmix σ σ').2.1 k 0).toNatClampNeg, Sum.inl ((zmix σ σ').1 k)) : va_E) = Sum.inl (ca 0, (σ.2.1 k 0).toNatClampNeg, Sum.inl (σ.1 k))
      rw [e.1, e.2]
    · have h1 : (decide (t + 7 < 7) || decide (28 ≤ n)) = true := hd
      rw [decide_eq_false (by omega), Bool.false_or, decide_eq_true_eq] at h1
      show (Sum.inl (ca 4, t, .inr (.inr (.inr (.inr (fun j => if j < t then some (zad2 ad ad' (n + j)) else none))))) : va_E) = Sum.inl (ca 4, t, .inr (.inr (.inr (.inr (fun j => if j < t then some (ad (n + j)) else none)))))
      have e2 : (fun j => if j < t then some (zad2 ad ad' (n + j)) else none) = (fun j => if j < t then some (ad (n + j)) else none) := funext fun j => by rw [zad2_n ha (show n + j ≠ 27 by omega)]
      rw [e2]
theorem zOx.narrow {A B : Nat → Prop} {ad : Nat → Nat} {U : State} {H : Heap} (h : zOx A ad U H) (hAB : ∀ q, B q → A q) : zOx B ad U H := by
  obtain ⟨⟨t, h1, h2⟩, h3, h4, h5, h6, h7, h8, h9, h10⟩ := h
  exact ⟨⟨t, h1.narrow hAB, h2.narrow hAB⟩, h3.narrow hAB, h4.narrow hAB, h5.narrow hAB, h6.imp (fun q => q.narrow hAB) (fun q => q.narrow hAB), h7, h8.narrow hAB, h9.narrow hAB, h10.narrow hAB⟩
/-- the cells that the class's methods may write, where others stand beside them -/
def zAx (b0 : Nat → Prop) (ad : Nat → Nat) (E : List zDs) : Nat → Prop := fun q => b0 q ∧ ∀ (k : Nat) (d : zDs), E[k]? = some d → q ≠ ad (42 + k)
theorem zWD_cut {D : va_G} {ca : Nat → ClassId} {b0 : Nat → Prop} {ad : Nat → Nat} {E : List zDs} {σ : zS} {U : State} (h : zWD D ca b0 ad (zD ++ E) σ U) : zWD D ca (zAx b0 ad E) ad zD σ U := by
  obtain ⟨hP, hK, hD, hO⟩ := h
  have up : ∀ {k : Nat} {q : Nat × va_E}, (zws ad ca zD σ)[k]? = some q → (zws ad ca (zD ++ E) σ)[k]? = some q := by
    intro k q hk
    obtain ⟨d, hd, rfl⟩ := zws_out hk
    exact zws_at (by rw [zDE_lo (zD_lt hd)]; exact hd)
  have hAB : ∀ q, zA (zAx b0 ad E) q → zA b0 q := fun q hq => hq.1
  refine ⟨fun k q hk => hP k q (up hk), hK, ⟨fun i j p q hi hj e => hD.1 i j p q (up hi) (up hj) e, fun k q hk => ⟨hD.2 k q (up hk), fun j d hj e => ?_⟩⟩, ⟨fun q hq => ⟨hO.1 q hq, fun j d hj e => ?_⟩, hO.2.1.narrow hAB, hO.2.2.1.narrow hAB, hO.2.2.2.narrow hAB⟩⟩
  · have hx := zws_at (ad := ad) (ca := ca) (σ := σ) (show (zD ++ E)[42 + j]? = some d by rw [zDE_hi]; exact hj)
    have := hD.1 k (42 + j) _ _ (up hk) hx e
    obtain ⟨d0, hd0, rfl⟩ := zws_out hk
    have := zD_lt hd0
    omega
  · have hx := zws_at (ad := ad) (ca := ca) (σ := σ) (show (zD ++ E)[42 + j]? = some d by rw [zDE_hi]; exact hj)
    have h1 := va_at.lt (hP _ _ hx)
    have h2 : ad (42 + j) < U.heap.size := h1
    omega
theorem zWD_join {D : va_G} {ca : Nat → ClassId} {b0 : Nat → Prop} {ad ad' : Nat → Nat} {E : List zDs} (hE : E.all zfr1 = true) {σ σ' : zS} {U t : State} (h : zWD D ca b0 ad (zD ++ E) σ U) (ha : zad ca 42 ad ad') (h' : zWD D ca (zAx b0 ad E) ad' zD σ' t) (hF : va_F (zA (zAx b0 ad E)) U t) (hW : U.WarmedH t.vm) :
    zad ca (zD ++ E).length ad (zad2 ad ad') ∧ zWD D ca b0 (zad2 ad ad') (zD ++ E) (zmix σ σ') t ∧ va_F (zA b0) U t := by
  obtain ⟨hP, hK, hD, hO⟩ := h
  obtain ⟨hP', hK', hD', hO'⟩ := h'
  have hF' : va_F (zA b0) U t := ⟨hF.1, fun q hq hn => hF.2 q hq (fun z => hn z.1)⟩
  have dn : ∀ {k : Nat} {q : Nat × va_E}, (zws (zad2 ad ad') ca (zD ++ E) (zmix σ σ'))[k]? = some q → (k < 42 ∧ (zws ad' ca zD σ')[k]? = some q) ∨ (42 ≤ k ∧ ∃ d, E[k - 42]? = some d ∧ q = (ad k, zcell ad ca σ k d) ∧ (zws ad ca (zD ++ E) σ)[k]? = some q) := by
    intro k q hk
    obtain ⟨d, hd, rfl⟩ := zws_out hk
    by_cases h4 : k < 42
    · refine .inl ⟨h4, ?_⟩
      rw [zDE_lo h4] at hd
      have hl := List.all_eq_true.mp zDlow d (List.mem_of_getElem? hd)
      rw [zws_at hd, zcell_lo h4 hl, zad2_lo h4]
    · have h5 : 42 ≤ k := by omega
      have hd2 : E[k - 42]? = some d := by
        rw [← zDE_hi (E := E), show 42 + (k - 42) = k by omega]; exact hd
      have hf := List.all_eq_true.mp hE d (List.mem_of_getElem? hd2)
      have he : ((zad2 ad ad') k, zcell (zad2 ad ad') ca (zmix σ σ') k d) = (ad k, zcell ad ca σ k d) := by rw [zcell_hi ha h5 hf, zad2_hi ha h5]
      exact .inr ⟨h5, d, hd2, he, by rw [he]; exact zws_at hd⟩
  refine ⟨fun i _ hf => zad2_n ha (hf.elim zMv_ne (fun z => z.1)), ⟨fun k q hk => ?_, hK', ⟨fun i j p q hi hj e => ?_, fun k q hk => ?_⟩, ?_⟩, hF'⟩
  · rcases dn hk with ⟨_, h2⟩ | ⟨h5, d, hd, rfl, h2⟩
    · exact hP' k q h2
    · have h1 := hP k _ h2
      refine va_at.kept h1 (hF.2 _ (va_at.lt h1) (fun z => z.2 (k - 42) d hd ?_))
      show ad k = ad (42 + (k - 42))
      rw [show 42 + (k - 42) = k by omega]
  · rcases dn hi with ⟨i4, h1⟩ | ⟨i5, d1, hd1, e1, h1⟩
    · rcases dn hj with ⟨j4, h2⟩ | ⟨j5, d2, hd2, e2, h2⟩
      · exact hD'.1 i j p q h1 h2 e
      · have := (hD'.2 i p h1).2 (j - 42) d2 hd2
        rw [show 42 + (j - 42) = j by omega] at this
        rw [e2] at e
        exact (this e).elim
    · rcases dn hj with ⟨j4, h2⟩ | ⟨j5, d2, hd2, e2, h2⟩
      · have := (hD'.2 j q h2).2 (i - 42) d1 hd1
        rw [show 42 + (i - 42) = i by omega] at this
        rw [e1] at e
        exact (this e.symm).elim
      · exact hD.1 i j p q h1 h2 e
  · rcases dn hk with ⟨_, h2⟩ | ⟨h5, d, hd, e, h2⟩
    · exact (hD'.2 k q h2).1
    · exact hD.2 k q h2
  · exact ((hO.kept hF'.1 hF'.2).moved hW.alike).ad (fun i hi => zad2_n ha (by omega))
/-- the frame rule -/
theorem zC_fr {E : List zDs} (hE : E.all zfr1 = true) {l : Launch} {y : MethodName} {cc : ByteArray} {maxL : Nat} {ret : Option FieldType} {fr nc ns : Nat} {av : List Value} {σ σ' : zS} {o : Option Value ⊕ String} (ho : ∀ i, o ≠ .inl (some (.ref i))) (hC : zC l y cc maxL ret fr nc ns av zD σ (o, zD, σ')) : zC l y cc maxL ret fr nc ns av (zD ++ E) σ (o, zD ++ E, zmix σ σ') := by
  intro D ca b0 ad
  refine met_cons fun a s hs => ?_
  obtain ⟨ha, hw, hR⟩ := hs
  refine ⟨_, _, _, _, hC D ca (zAx b0 ad E) ad, ⟨ha, zWD_cut hw, hR⟩, fun o' t hq => ?_⟩
  rcases hq with ⟨⟨⟨v, ad', e1, e2, e3, e4⟩, hF⟩, L, hFE, hL⟩ | ⟨q, hqo, X, ce, L, ⟨⟨ad', e1, e3, e4⟩, hF⟩, t1, t2, t3, t4, t5, t6⟩
  · rw [zD_n] at e3
    obtain ⟨g1, g2, g3⟩ := zWD_join hE hw e3 e4 hF hFE.2.1
    refine .inl ⟨⟨⟨v, zad2 ad ad', e1, ?_, g1, g2⟩, g3⟩, L, hFE, fun z hz => (hL z hz).1⟩
    rw [e2]
    cases v with
    | none => rfl
    | some w =>
      cases w with
      | ref i => exact (ho i e1).elim
      | _ => rfl
  · rw [zD_n] at e3
    obtain ⟨g1, g2, g3⟩ := zWD_join hE hw e3 e4 hF t4
    exact .inr ⟨q, hqo, X, ce, L, ⟨⟨zad2 ad ad', e1, g1, g2⟩, g3⟩, t1, t2, t3, t4, t5, fun z hz => (t6 z hz).1⟩
