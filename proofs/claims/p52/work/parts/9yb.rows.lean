/-! ===== rows of rows; digits; row ===== -/
def zokl (n : Nat) : Value → Bool
  | .ref j => decide (j < n) || decide (900 ≤ j)
  | _ => true
/-- c new rows from the cell b on -/
def zrws (σ : zS) (b c : Nat) : zS := (fun a => if b ≤ a ∧ a < b + c then fun _ => 0 else σ.1 a, σ.2)
/-! ===== BEGIN new T[n][m]: the outer array a place, the inner ones among the pooled ===== -/
/-- f, but v at every address of l -/
def vr_up {α : Type} (f : Nat → α) (l : List Nat) (v : α) : Nat → α := fun a => if a ∈ l then v else f a
theorem vr_up_in {α : Type} {f : Nat → α} {l : List Nat} {v : α} {a : Nat} (h : a ∈ l) : vr_up f l v a = v := if_pos h
theorem vr_up_ne {α : Type} {f : Nat → α} {l : List Nat} {v : α} {a : Nat} (h : a ∉ l) : vr_up f l v a = f a := if_neg h
theorem vr_rows {L l : List Nat} {f : Nat → va_E} {e : va_E} (h : ∀ a, a ∈ l → a ∉ L) : va_pl L f ++ l.map (fun a => (a, e)) = va_pl (L ++ l) (vr_up f l e) := by
  unfold va_pl
  rw [List.map_append]
  congr 1
  · apply List.map_congr_left
    intro a ha
    rw [vr_up_ne (fun q => h a q ha)]
  · apply List.map_congr_left
    intro a ha
    rw [vr_up_in ha]
theorem vr_lay {X rows : va_W} {x : Nat × va_E} {pl : va_W} {D : va_G} {cl : List vw_C} {H : Heap} (hP : va_P D cl (((X ++ pl) ++ [x]) ++ rows) H) : va_P D cl ((X ++ [x]) ++ (pl ++ rows)) H := by
  rw [List.append_assoc (X ++ pl)] at hP
  have h := va_P.swap hP
  rw [← List.append_assoc X] at h
  have h2 := va_P.swap h
  rw [List.append_assoc (X ++ [x])] at h2
  exact h2
theorem vr_layD {X rows : va_W} {x : Nat × va_E} {pl : va_W} {A : Nat → Prop} (hD : va_D A (((X ++ pl) ++ [x]) ++ rows)) : va_D A ((X ++ [x]) ++ (pl ++ rows)) := by
  rw [List.append_assoc (X ++ pl)] at hD
  have h := va_D.swap hD
  rw [← List.append_assoc X] at h
  have h2 := va_D.swap h
  rw [List.append_assoc (X ++ [x])] at h2
  exact h2
theorem vr_outer (c : ClassId) (N h0 : Nat) : ∀ i : Nat, Jvm.Free.Multi.outerC c N h0 i = arrV c N (fun j => va_rf (if j < i then some (h0 + 1 + j) else none))
  | 0 => by
    show ({ cls := c, slots := Array.replicate N .null, vm := .none } : Cell) = _
    rw [arrV_new]
    refine congrArg (arrV c N) (funext fun j => ?_)
    simp [va_rf]
  | i + 1 => by
    show (Jvm.Free.Multi.outerC c N h0 i).setSlot i (.ref (h0 + 1 + i)) = _
    rw [vr_outer c N h0 i, arrV_store]
    refine congrArg (arrV c N) (funext fun j => ?_)
    by_cases e : j = i
    · subst e
      simp [updV, va_rf]
    · by_cases h : j < i
      · simp [updV, e, h, Nat.lt_succ_of_lt h]
      · simp [updV, e, h, show ¬ j < i + 1 by omega]
section VGM
variable {p : Program} {l : Launch} {e : Env} {R : Room} {s : State} {m : MethodId} {args : Array Value} {below : List Frame} {meth : Method} {c : Code} {H : Heap} {locs : List Loc} {cells slots : Nat} {Q : State → Prop}
variable {cc : ByteArray} {pc : Nat} {ls : Array Slot} {rest : List Value} {D : va_G} {cl : List vw_C} {A : Nat → Prop} {a : Nat} {tys : List (ClassId × FieldType)} {ws : va_W} {H0 : Heap}
theorem va_mna2 {X : va_W} {L : List Nat} {f : Nat → va_E} {cc : ByteArray} (hexec : p.tables.exec = Jvm.exec) (hb : c.code = cc) {own : String} {index : Nat} {ty : FieldType} {cy : ClassId} (hown : s.vm.findClass own = some m.cls) (hclink : (Cond.classLink own index ("[" ++ (FieldType.array ty).toString)).before args s = true) (hover : (Cond.arrayOver (.array ty)).before args s = true) (harr : (Cond.arrayClass ty).before args s = true) (hcy : s.vm.findClass (FieldType.array ty).toString = some cy)
    (hK : va_K D cl tys s) (hP : va_P D cl (X ++ va_pl L f) H) (hD : va_D A (X ++ va_pl L f)) (hS : va_S A H0 H locs) (hA : ∀ q, H0.size ≤ q → A q) {n k : Int32} {N' K' : Nat} {z : vp_A} (hn : ¬ n < 0) (hk : ¬ k < 0) (hN : n.toNatClampNeg = N') (hM : k.toNatClampNeg = K')
    (hb1 : N' * 4 ≤ 536870912) (hb2 : K' * componentBytes ty ≤ 536870912) (hb3 : K' ≤ 536870912) (hdf : fits ty (defaultValue ty) = true) (hdd : (defaultValue ty).isDefault = true) (hcells : cells + (1 + N') ≤ R.cells) (hslots : slots + (N' + N' * K') ≤ R.slots) (hz : ∀ c : ClassId, Jvm.Free.Multi.innerC c K' (defaultValue ty) = vp_cell c z) (hdg : decode cc pc = .ok (.multianewarray index 2, 4))
    (kk : ∀ (q : Nat) (r : Nat → Nat) (cA : ClassId) (H1 : Heap), (∀ i j : Nat, i < N' → j < N' → r i = r j → i = j) → (∀ i : Nat, i < N' → r i ∉ L) → va_K D cl (tys ++ [(cA, .array ty)]) s →
      va_P D cl ((X ++ [(q, .inl (cA, N', .inr (.inr (.inr (.inr (fun i => if i < N' then some (r i) else none))))))]) ++ va_pl (L ++ (List.range N').map r) (vr_up f ((List.range N').map r) (.inl (cy, z)))) H1 → va_D A ((X ++ [(q, .inl (cA, N', .inr (.inr (.inr (.inr (fun i => if i < N' then some (r i) else none))))))]) ++ va_pl (L ++ (List.range N').map r) (vr_up f ((List.range N').map r) (.inl (cy, z)))) → va_S A H0 H1 locs →
      W p l e R s m args below meth c H1 locs (cells + 1 + N') (slots + N' + N' * K') Q (F0 m (pc + 4) ls (.ref q :: rest))) : W p l e R s m args below meth c H locs cells slots Q (F0 m pc ls (.int k :: .int n :: rest)) := by
  subst hN
  subst hM
  intro T hT Xs
  obtain ⟨vm₁, cA, comp, -, fA, fC, hO, -, X', step⟩ := Xs.multianewarray2F hexec hown hclink hover harr (g := F0 m pc ls (.int k :: .int n :: rest)) rfl (by rw [hb]; exact hdg) rfl hn hk hb1 hb2 hb3 hdf hdd hcells hslots
  have ec : some cy = some comp := hcy.symm.trans fC
  cases ec
  generalize hF : Jvm.Free.Multi.fill (T.setVm vm₁) cA cy n.toNatClampNeg k.toNatClampNeg (defaultValue ty) n.toNatClampNeg = F at X' step
  have hTh : (T.setVm vm₁).heap = H := hT
  obtain ⟨f1, f2, -, -⟩ := Jvm.Free.Multi.fill_facts (T.setVm vm₁) cA cy n.toNatClampNeg k.toNatClampNeg (defaultValue ty) n.toNatClampNeg
  rw [hF, hTh] at f1 f2
  have hold : ∀ x : Nat, x < H.size → F.heap[x]? = H[x]? := fun x hx => by
    have := Jvm.Free.Multi.fill_old (T.setVm vm₁) cA cy n.toNatClampNeg k.toNatClampNeg (defaultValue ty) (a := x) (by rw [hTh]; exact hx) n.toNatClampNeg
    rw [hF, hTh] at this
    exact this
  have hrow : ∀ j : Nat, j < n.toNatClampNeg → F.heap[H.size + 1 + j]? = some (vp_cell cy z) := fun j hj => by
    have := Jvm.Free.Multi.fill_inner (T.setVm vm₁) cA cy n.toNatClampNeg k.toNatClampNeg (defaultValue ty) n.toNatClampNeg j hj
    rw [hF, hTh, hz] at this
    exact this
  have hout : Jvm.Free.Multi.outerC cA n.toNatClampNeg H.size n.toNatClampNeg = vp_cell cA (n.toNatClampNeg, .inr (.inr (.inr (.inr (fun i => if i < n.toNatClampNeg then some (H.size + 1 + i) else none))))) := by
    rw [vp_cell_q]
    exact vr_outer cA n.toNatClampNeg H.size n.toNatClampNeg
  rw [hout] at f2
  have hlt : ∀ a, a ∈ L → a < H.size := fun a ha => by
    obtain ⟨k9, hk9⟩ := va_pl_get (X := X) (f := f) ha
    exact (hP k9 _ hk9).lt
  have hnl : ∀ i : Nat, i < n.toNatClampNeg → H.size + 1 + i ∉ L := fun i _ h => by
    have := hlt _ h
    omega
  have hnm : ∀ a, a ∈ (List.range n.toNatClampNeg).map (fun i => H.size + 1 + i) → a ∉ L := fun a ha h => by
    obtain ⟨i, -, rfl⟩ := List.mem_map.mp ha
    have := hlt _ h
    omega
  have hP0 : va_P D cl (X ++ va_pl L f) F.heap := hP.kept (fun k9 x hx => hold x.1 ((hP k9 x hx).lt))
  have hP1 : va_P D cl ((X ++ va_pl L f) ++ [(H.size, .inl (cA, n.toNatClampNeg, .inr (.inr (.inr (.inr (fun i => if i < n.toNatClampNeg then some (H.size + 1 + i) else none))))))]) F.heap := hP0.app (fun k9 x hx => by
    have h0 : k9 < 1 := (List.getElem?_eq_some_iff.mp hx).1
    rw [show k9 = 0 by omega] at hx
    cases hx
    exact f2)
  have hP2 : va_P D cl (((X ++ va_pl L f) ++ [(H.size, .inl (cA, n.toNatClampNeg, .inr (.inr (.inr (.inr (fun i => if i < n.toNatClampNeg then some (H.size + 1 + i) else none))))))]) ++ ((List.range n.toNatClampNeg).map (fun i => H.size + 1 + i)).map (fun a => (a, .inl (cy, z)))) F.heap := hP1.app (fun k9 x hx => by
    obtain ⟨a, ha, rfl⟩ := List.mem_map.mp (List.mem_of_getElem? hx)
    obtain ⟨i, hi, rfl⟩ := List.mem_map.mp ha
    exact hrow i (List.mem_range.mp hi))
  have hD2 : va_D A (((X ++ va_pl L f) ++ [(H.size, .inl (cA, n.toNatClampNeg, .inr (.inr (.inr (.inr (fun i => if i < n.toNatClampNeg then some (H.size + 1 + i) else none))))))]) ++ ((List.range n.toNatClampNeg).map (fun i => H.size + 1 + i)).map (fun a => (a, .inl (cy, z)))) := by
    have hD1 := hD.push (e := .inl (cA, n.toNatClampNeg, .inr (.inr (.inr (.inr (fun i => if i < n.toNatClampNeg then some (H.size + 1 + i) else none)))))) hP rfl (hA _ hS.1)
    generalize hW1 : (X ++ va_pl L f) ++ [(H.size, .inl (cA, n.toNatClampNeg, .inr (.inr (.inr (.inr (fun i => if i < n.toNatClampNeg then some (H.size + 1 + i) else none))))))] = W1 at hD1 hP1 ⊢
    have hle : ∀ (k9 : Nat) (x : Nat × va_E), W1[k9]? = some x → x.1 ≤ H.size := fun k9 x hx => by
      rw [← hW1] at hx
      by_cases hl : k9 < (X ++ va_pl L f).length
      · rw [List.getElem?_append_left hl] at hx
        exact Nat.le_of_lt ((hP k9 x hx).lt)
      · rw [List.getElem?_append_right (by omega)] at hx
        have h0 : k9 - (X ++ va_pl L f).length < 1 := (List.getElem?_eq_some_iff.mp hx).1
        rw [show k9 - (X ++ va_pl L f).length = 0 by omega] at hx
        cases hx
        exact Nat.le_refl _
    have hr : ∀ (k9 : Nat) (x : Nat × va_E), (((List.range n.toNatClampNeg).map (fun i => H.size + 1 + i)).map (fun a => ((a, .inl (cy, z)) : Nat × va_E)))[k9]? = some x → x.1 = H.size + 1 + k9 := fun k9 x hx => by
      rw [List.getElem?_map, List.getElem?_map] at hx
      by_cases h9 : k9 < n.toNatClampNeg
      · rw [List.getElem?_range h9] at hx
        cases hx
        rfl
      · have hn0 : (List.range n.toNatClampNeg)[k9]? = none := List.getElem?_eq_none (by rw [List.length_range]; omega)
        rw [hn0] at hx
        cases hx
    refine ⟨fun i j x y hi hj hxy => ?_, fun k9 x hx => ?_⟩
    · by_cases h1 : i < W1.length <;> by_cases h2 : j < W1.length
      · rw [List.getElem?_append_left h1] at hi
        rw [List.getElem?_append_left h2] at hj
        exact hD1.1 i j x y hi hj hxy
      · rw [List.getElem?_append_left h1] at hi
        rw [List.getElem?_append_right (by omega)] at hj
        have := hle _ _ hi
        have := hr _ _ hj
        omega
      · rw [List.getElem?_append_right (by omega)] at hi
        rw [List.getElem?_append_left h2] at hj
        have := hle _ _ hj
        have := hr _ _ hi
        omega
      · rw [List.getElem?_append_right (by omega)] at hi hj
        have := hr _ _ hi
        have := hr _ _ hj
        omega
    · by_cases h1 : k9 < W1.length
      · rw [List.getElem?_append_left h1] at hx
        exact hD1.2 k9 x hx
      · rw [List.getElem?_append_right (by omega)] at hx
        have := hr _ _ hx
        exact hA _ (by have := hS.1; omega)
  have hAr : ArrOfT s cA (.array ty) := fun N9 z9 => by
    obtain ⟨-, k9, hk9, cm9, hkk9⟩ := (hO 0 0 0).1
    exact ⟨(fun q hq => by cases hq), k9, hk9, cm9, hkk9⟩
  have hK2 : va_K D cl (tys ++ [(cA, .array ty)]) s := ⟨hK.1, fun k9 x hx => by
    by_cases hl : k9 < tys.length
    · rw [List.getElem?_append_left hl] at hx
      exact hK.2 k9 x hx
    · rw [List.getElem?_append_right (by omega)] at hx
      have h0 : k9 - tys.length < 1 := (List.getElem?_eq_some_iff.mp hx).1
      rw [show k9 - tys.length = 0 by omega] at hx
      cases hx
      exact ⟨hAr, fA⟩⟩
  obtain ⟨t, a1, b1⟩ := kk H.size (fun i => H.size + 1 + i) cA F.heap (fun i j _ _ h => by have h9 : H.size + 1 + i = H.size + 1 + j := h; omega) hnl hK2 (by rw [← vr_rows hnm]; exact vr_lay hP2) (by rw [← vr_rows hnm]; exact vr_layD hD2) ⟨by rw [f1]; have := hS.1; omega, fun x h1 h2 => (hold x (Nat.lt_of_lt_of_le h1 hS.1)).trans (hS.2.1 x h1 h2), hS.2.2⟩ F rfl X'
  refine ⟨t, step t ?_, b1⟩
  have e : T.heap.size = H.size := by rw [hT]
  rw [e]
  exact a1
end VGM
/-! ===== END ===== -/
/-- the addresses with the new rows -/
def zmad (ad : Nat → Nat) (i c q : Nat) (r : Nat → Nat) : Nat → Nat := fun k => if k = i then q else if i + 1 ≤ k ∧ k < i + 1 + c then r (k - (i + 1)) else ad k
theorem zmad_i {ad : Nat → Nat} {i c q : Nat} {r : Nat → Nat} : zmad ad i c q r i = q := if_pos rfl
theorem zmad_r {ad : Nat → Nat} {i c q j : Nat} {r : Nat → Nat} (hj : j < c) : zmad ad i c q r (i + 1 + j) = r j := by
  unfold zmad
  rw [if_neg (by omega), if_pos ⟨by omega, by omega⟩]
  congr 1
  omega
theorem zmad_n {ad : Nat → Nat} {i c q k : Nat} {r : Nat → Nat} (h1 : k ≠ i) (h2 : ¬ (i + 1 ≤ k ∧ k < i + 1 + c)) : zmad ad i c q r k = ad k := by
  unfold zmad
  rw [if_neg h1, if_neg h2]
theorem zmad_lo {ad : Nat → Nat} {i c q k : Nat} {r : Nat → Nat} (h : k < i) : zmad ad i c q r k = ad k := zmad_n (by omega) (by omega)
theorem zokl_ref {i j : Nat} (h : zokl i (.ref j) = true) : j < i ∨ 900 ≤ j := by
  have h1 : (decide (j < i) || decide (900 ≤ j)) = true := h
  rw [Bool.or_eq_true] at h1
  exact h1.imp of_decide_eq_true of_decide_eq_true
theorem zokl_zr {ad : Nat → Nat} {i c q : Nat} {r : Nat → Nat} {v : Value} (h : zokl i v = true) (h9 : i + 1 + c < 900) : zr (zmad ad i c q r) v = zr ad v := by
  cases v with
  | ref j =>
    have key : ∀ k : Nat, k < i ∨ 900 ≤ k → zmad ad i c q r k = ad k := fun k hk => zmad_n (by omega) (by omega)
    exact congrArg Value.ref (key j (zokl_ref h))
  | _ => rfl
theorem zcell_bl {ad ad' : Nat → Nat} {ca : Nat → ClassId} {σ : zS} {M j : Nat} {d : zDs} (h : zbl M d = true) (h26 : 26 ≤ M) (ha : ∀ k, k < M → ad' k = ad k) : zcell ad' ca σ j d = zcell ad ca σ j d := by
  rcases d with ⟨ci, fl⟩ | ⟨t, n⟩
  · show (Sum.inr (ci, _) : va_E) = Sum.inr (ci, _)
    congr 2
    apply List.ext_getElem?
    intro k
    simp only [List.getElem?_mapIdx]
    cases hk : fl[k]? with
    | none => rfl
    | some z =>
      obtain ⟨a, b⟩ := z
      have h1 := List.all_eq_true.mp h (a, b) (List.mem_of_getElem? hk)
      simp only [Bool.or_eq_true, bne_iff_ne, decide_eq_true_eq] at h1
      rcases a with _ | _ | _ | a
      · rfl
      · show some (Value.ref (ad' b)) = some (Value.ref (ad b))
        rw [ha b (h1.resolve_left (fun z => z rfl))]
      · show some (Value.ref (ad' (zsp σ b))) = some (Value.ref (ad (zsp σ b)))
        rcases zsp_or σ b with e | e
        · rw [e, ha 24 (by omega)]
        · rw [e, ha 25 (by omega)]
      · rfl
  · rcases t with _ | _ | _ | _ | _ | _ | _ | t
    · rfl
    · rfl
    · rfl
    · rfl
    · rfl
    · rfl
    · rfl
    · have h1 : (decide (t + 7 < 7) || decide (n + (t + 7) ≤ M + 7)) = true := h
      rw [decide_eq_false (by omega), Bool.false_or, decide_eq_true_eq] at h1
      show (Sum.inl (ca 4, t, .inr (.inr (.inr (.inr (fun j => if j < t then some (ad' (n + j)) else none))))) : va_E) = Sum.inl (ca 4, t, .inr (.inr (.inr (.inr (fun j => if j < t then some (ad (n + j)) else none)))))
      have e : (fun j => if j < t then some (ad' (n + j)) else none) = (fun j => if j < t then some (ad (n + j)) else none) := by
        funext j
        by_cases hj : j < t
        · rw [if_pos hj, if_pos hj, ha _ (by omega)]
        · rw [if_neg hj, if_neg hj]
      rw [e]
theorem zws_mna {ad : Nat → Nat} {ca : Nat → ClassId} {dl : List zDs} {σ : zS} {i c n q : Nat} {r : Nat → Nat} (hi : dl.length = i) (hbl : dl.all (zbl i) = true) (h26 : 26 ≤ i) : zws (zmad ad i c q r) ca (dl ++ (.inr (c + 7, i + 1) :: List.replicate c (.inr (0, n)))) (zrws σ (i + 1) c) = (zws ad ca dl σ ++ [(q, .inl (ca 4, c, .inr (.inr (.inr (.inr (fun j => if j < c then some (r j) else none))))))]) ++ va_pl ((List.range c).map r) (vr_up (fun _ => (.inl (ca 0, 0, .inl (fun _ => 0)) : va_E)) ((List.range c).map r) (.inl (ca 0, (n, .inl (fun _ => 0))))) := by
  have hl1 : (zws ad ca dl σ).length = i := by simp [zws, hi]
  apply List.ext_getElem?
  intro j
  rw [zws_get]
  by_cases hj : j < i
  · rw [List.getElem?_append_left (by omega), List.append_assoc, List.getElem?_append_left (by omega), zws_get]
    cases hd : dl[j]? with
    | none => rfl
    | some d =>
      show some (zmad ad i c q r j, zcell (zmad ad i c q r) ca (zrws σ (i + 1) c) j d) = some (ad j, zcell ad ca σ j d)
      rw [zmad_lo hj, zcell_bl (List.all_eq_true.mp hbl d (List.mem_of_getElem? hd)) h26 (fun k hk => zmad_lo hk), zcell_ne (σ := σ) (σ' := zrws σ (i + 1) c) (if_neg (by omega)) rfl rfl]
  · rw [List.getElem?_append_right (by omega), hi]
    by_cases hji : j = i
    · subst hji
      rw [Nat.sub_self, List.append_assoc, List.getElem?_append_right (by omega), hl1, Nat.sub_self]
      show some (zmad ad j c q r j, zcell (zmad ad j c q r) ca (zrws σ (j + 1) c) j (.inr (c + 7, j + 1))) = some (q, _)
      rw [zmad_i]
      show some (q, (Sum.inl (ca 4, c, .inr (.inr (.inr (.inr (fun k => if k < c then some (zmad ad j c q r (j + 1 + k)) else none))))) : va_E)) = _
      have e : (fun k => if k < c then some (zmad ad j c q r (j + 1 + k)) else none) = (fun k => if k < c then some (r k) else none) := by
        funext k
        by_cases hk : k < c
        · rw [if_pos hk, if_pos hk, zmad_r hk]
        · rw [if_neg hk, if_neg hk]
      rw [e]
    · obtain ⟨k, rfl⟩ : ∃ k, j = i + 1 + k := ⟨j - (i + 1), by omega⟩
      rw [show i + 1 + k - i = k + 1 by omega, List.getElem?_cons_succ, List.getElem?_append_right (by rw [List.length_append, hl1]; show i + 1 ≤ _; omega), List.length_append, hl1]
      show _ = (va_pl _ _)[i + 1 + k - (i + 1)]?
      rw [show i + 1 + k - (i + 1) = k by omega]
      unfold va_pl
      rw [List.getElem?_map, List.getElem?_map, List.getElem?_replicate]
      by_cases hk : k < c
      · rw [if_pos hk, List.getElem?_range hk]
        show some (zmad ad i c q r (i + 1 + k), zcell (zmad ad i c q r) ca (zrws σ (i + 1) c) (i + 1 + k) (.inr (0, n))) = some (r k, vr_up _ _ _ (r k))
        rw [zmad_r hk, vr_up_in (List.mem_map.mpr ⟨k, List.mem_range.mpr hk, rfl⟩)]
        show some (r k, (Sum.inl (ca 0, n, Sum.inl ((zrws σ (i + 1) c).1 (i + 1 + k))) : va_E)) = _
        rw [show (zrws σ (i + 1) c).1 (i + 1 + k) = fun _ => 0 from if_pos ⟨by omega, by omega⟩]
      · rw [if_neg hk, List.getElem?_eq_none (by rw [List.length_range]; omega)]
        rfl
section ZMn
variable {x : zXx} {cc : ByteArray} {nL : Nat} {own : String} {ret : Option FieldType} {F pc : Nat} {ls : List (Nat × Value)} {st : List Value} {dl : List zDs} {σ : zS} {A B A' B' : Nat}
theorem z_mna {c n i index : Nat} (hG : zG x cc nL own ret) (hlink : Cond.classLink own index "[[I" ∈ zT) (hi : dl.length = i) (hbl : dl.all (zbl i) = true) (h26 : 26 ≤ i) (hc : c ≤ 600) (hn : n ≤ 100) (hi9 : i + 1 + c < 900) (hst : st.all (zokl i) = true) (hls : ls.all (fun q => zokl i q.2) = true) (hA : A = A' + (1 + c)) (hB : B = B' + (c + c * n)) (hd : decode cc pc = .ok (.multianewarray index 2, 4))
    (kk : zK x F (pc + 4) ls (.ref i :: st) (dl ++ (.inr (c + 7, i + 1) :: List.replicate c (.inr (0, n)))) (zrws σ (i + 1) c) A' B') : zK x F pc ls (.int (nI n) :: .int (nI c) :: st) dl σ A B := by
  obtain ⟨p, l, e, R, s, m, args, below, meth, c0, D, ca, b0, ad0, n0, tg⟩ := x
  obtain ⟨hx, hb, hml, hown, hts, hret, hlk, htab, hKs, hOs, hfl⟩ := hG
  intro ad H locs la cells slots h1 h2 h3 h4 h5 h6 h7 h8 h9 h10
  have hname : "[" ++ (FieldType.array FieldType.int).toString = "[[I" := by decide +kernel
  have hcy : s.vm.findClass (FieldType.array FieldType.int).toString = some (ca 0) := (hKs.2 0 (ca 0, .int) rfl).2
  have hbc : c * n ≤ 600 * 100 := Nat.mul_le_mul hc hn
  show W p l e R s m args below meth c0 H locs cells slots _ (F0 m pc la (.int (nI n) :: .int (nI c) :: st.map (zr ad)))
  refine va_mna2 (args := args) (R := R) (cells := cells) (slots := slots) (locs := locs) (H := H) (X := zws ad ca dl σ) (L := []) (f := fun _ => .inl (ca 0, 0, .inl (fun _ => 0))) (ty := .int) (cy := ca 0) (n := nI c) (k := nI n) (N' := c) (K' := n) (z := (n, .inl (fun _ => 0))) hx hb hown (by rw [hname]; exact hts _ hlink) (show (Cond.arrayOver (.array .int)).before args s = true from hOs.1.2.2.2.2.2.2.2.2.1.2.2.2) (hts _ wa_int) hcy hKs (by rw [show va_pl [] (fun _ => (.inl (ca 0, 0, .inl (fun _ => 0)) : va_E)) = [] from rfl, List.append_nil]; exact h3) (by rw [show va_pl [] (fun _ => (.inl (ca 0, 0, .inl (fun _ => 0)) : va_E)) = [] from rfl, List.append_nil]; exact h4) h5 (fun q hq => hOs.1.1 q hq) (nI_pos (by omega)) (nI_pos (by omega)) (nI_clamp (by omega)) (nI_clamp (by omega)) (by omega) (by show n * 4 ≤ 536870912; omega) (by omega) rfl rfl (by omega) (by omega) (fun cA => by show ({ cls := cA, slots := Array.replicate n (.int 0), vm := .none } : Cell) = arrV cA n (fun _ => .int 0); exact arrV_new _ _ _) hd (fun q r cA H1 hr1 hr2 gK g1 g2 g3 => ?_)
  have hk1 : s.vm.findClass ("[" ++ (FieldType.array FieldType.int).toString) = some cA := (gK.2 5 (cA, .array .int) rfl).2
  have hk2 : s.vm.findClass ("[" ++ (FieldType.array FieldType.int).toString) = some (ca 4) := (hKs.2 4 (ca 4, .array .int) rfl).2
  have hca : cA = ca 4 := Option.some.inj (hk1.symm.trans hk2)
  subst hca
  have ez := zws_mna (ad := ad) (ca := ca) (σ := σ) (q := q) (r := r) (n := n) (c := c) hi hbl h26
  rw [List.nil_append] at g1 g2
  rw [← ez] at g1 g2
  have hlen : (dl ++ (.inr (c + 7, i + 1) :: List.replicate c (.inr (0, n)) : List zDs)).length = i + 1 + c := by
    rw [List.length_append, List.length_cons, List.length_replicate, hi]
    omega
  have hzad : zad ca n0 ad0 (zmad ad i c q r) := fun j hj hf => (zmad_n (by omega) (by omega)).trans (h1 j hj hf)
  have hstv : st.map (zr (zmad ad i c q r)) = st.map (zr ad) := List.map_congr_left fun v hm => zokl_zr (List.all_eq_true.mp hst v hm) hi9
  have hlsv : zrl (zmad ad i c q r) ls = zrl ad ls := List.map_congr_left fun v hm => congrArg (fun z => (v.1, z)) (zokl_zr (List.all_eq_true.mp hls v hm) hi9)
  have k2 := kk (zmad ad i c q r) H1 locs la (cells + 1 + c) (slots + c + c * n) hzad (by rw [hlen]; omega) g1 g2 g3 (by rw [hlsv]; exact h6) (by omega) (by omega) h9 h10
  rw [List.map_cons, hstv] at k2
  have e2 : zr (zmad ad i c q r) (.ref i) = .ref q := congrArg Value.ref zmad_i
  rw [e2] at k2
  exact k2
end ZMn
/-- the world with the forms -/
def zEf (c n : Nat) : List zDs := zEt ++ (.inr (c + 7, 49) :: List.replicate c (.inr (0, n)))
theorem zEf_f (c n : Nat) : (zEf c n).all zfr1 = true := by
  have hr : (List.replicate c (.inr (0, n) : zDs)).all zfr1 = true := List.all_eq_true.mpr (fun d hd => by rw [List.eq_of_mem_replicate hd]; rfl)
  have h : zfr1 (.inr (c + 7, 49)) = true := by
    show (decide (c + 7 < 7) || decide (28 ≤ 49)) = true
    rw [show decide (28 ≤ 49) = true from rfl, Bool.or_true]
  unfold zEf
  rw [List.all_append]
  show (zEt.all zfr1 && (zfr1 (.inr (c + 7, 49)) && (List.replicate c (.inr (0, n) : zDs)).all zfr1)) = true
  rw [h, hr]
  rfl
theorem zEf_n (c n : Nat) : (zD ++ zEf c n).length = 49 + c := by
  unfold zEf
  rw [List.length_append, List.length_append]
  show zD.length + (6 + ((List.replicate c (.inr (0, n) : zDs)).length + 1)) = 49 + c
  rw [List.length_replicate, zD_n]
  omega
theorem zEf_48 (c n : Nat) : (zD ++ zEf c n)[48]? = some (.inr (c + 7, 49)) := by
  rw [show (48 : Nat) = 42 + 6 from rfl, zDE_hi]
  rfl
theorem zEf_r {c n k : Nat} (hk : k < c) : (zD ++ zEf c n)[49 + k]? = some (.inr (0, n)) := by
  rw [show 49 + k = 42 + (7 + k) by omega, zDE_hi]
  unfold zEf
  rw [List.getElem?_append_right (by show 6 ≤ 7 + k; omega)]
  rw [show 7 + k - zEt.length = k + 1 by show 7 + k - 6 = k + 1; omega, List.getElem?_cons_succ, List.getElem?_replicate, if_pos hk]
theorem zEo_0 (E : List zDs) : (zD ++ E)[0]? = some (.inl (8, [(1, 1), (1, 3), (1, 11), (1, 19), (1, 20), (1, 26), (1, 31), (1, 34), (1, 37), (1, 40), (1, 41), (0, 0), (0, 0)])) := by rfl
theorem zo_0 (E : List zDs) : zoks (zD ++ E).length (.ref 0) = true := zoks_of (zEo_0 E) (by decide)
theorem zatE {E : List zDs} {d : zDs} : (zD ++ (E ++ [d]))[(zD ++ E).length]? = some d := by
  rw [← List.append_assoc]
  exact zat0
theorem dga_le (a : Nat → Nat) (ha : ∀ f, a f < 10) : ∀ n, dga a n < 10 ^ n := fun n => dga_lt n (fun f _ => ha f)
theorem dL_digits_0 : decode cL_digits 0 = .ok (.iconst 0, 1) := by decide +kernel
theorem dL_digits_1 : decode cL_digits 1 = .ok (.istore_n 1, 1) := by decide +kernel
theorem dL_digits_2 : decode cL_digits 2 = .ok (.aload_n 0, 1) := by decide +kernel
theorem dL_digits_3 : decode cL_digits 3 = .ok (.astore_n 2, 1) := by decide +kernel
theorem dL_digits_4 : decode cL_digits 4 = .ok (.aload_n 2, 1) := by decide +kernel
theorem dL_digits_5 : decode cL_digits 5 = .ok (.arraylength, 1) := by decide +kernel
theorem dL_digits_6 : decode cL_digits 6 = .ok (.istore_n 3, 1) := by decide +kernel
theorem dL_digits_7 : decode cL_digits 7 = .ok (.iconst 0, 1) := by decide +kernel
theorem dL_digits_8 : decode cL_digits 8 = .ok (.istore 4, 2) := by decide +kernel
theorem dL_digits_10 : decode cL_digits 10 = .ok (.iload 4, 2) := by decide +kernel
theorem dL_digits_12 : decode cL_digits 12 = .ok (.iload_n 3, 1) := by decide +kernel
theorem dL_digits_13 : decode cL_digits 13 = .ok (.if_icmp .ge 23, 3) := by decide +kernel
theorem dL_digits_16 : decode cL_digits 16 = .ok (.aload_n 2, 1) := by decide +kernel
theorem dL_digits_17 : decode cL_digits 17 = .ok (.iload 4, 2) := by decide +kernel
theorem dL_digits_19 : decode cL_digits 19 = .ok (.iaload, 1) := by decide +kernel
theorem dL_digits_20 : decode cL_digits 20 = .ok (.istore 5, 2) := by decide +kernel
theorem dL_digits_22 : decode cL_digits 22 = .ok (.bipush 10, 2) := by decide +kernel
theorem dL_digits_24 : decode cL_digits 24 = .ok (.iload_n 1, 1) := by decide +kernel
theorem dL_digits_25 : decode cL_digits 25 = .ok (.imul, 1) := by decide +kernel
theorem dL_digits_26 : decode cL_digits 26 = .ok (.iload 5, 2) := by decide +kernel
theorem dL_digits_28 : decode cL_digits 28 = .ok (.iadd, 1) := by decide +kernel
theorem dL_digits_29 : decode cL_digits 29 = .ok (.istore_n 1, 1) := by decide +kernel
theorem dL_digits_30 : decode cL_digits 30 = .ok (.iinc 4 1, 3) := by decide +kernel
theorem dL_digits_33 : decode cL_digits 33 = .ok (.goto (-23), 3) := by decide +kernel
theorem dL_digits_36 : decode cL_digits 36 = .ok (.iload_n 1, 1) := by decide +kernel
theorem dL_digits_37 : decode cL_digits 37 = .ok (.ireturn, 1) := by decide +kernel
theorem dg_one {l : Launch} {dl : List zDs} {σ : zS} {r n i : Nat} {a : Nat → Nat} (hr : dl[r]? = some (.inr (0, n))) (hn : n ≤ 5) (hi : i < n) (hw : ∀ f, f < n → σ.1 r f = nI (a f)) {x : zXx} {F A B : Nat} (hG : zG x cL_digits 6 RL (Option.some Jvm.ClassFile.FieldType.int)) (kk : zK x F 10 [(4, .int (nI (i + 1))), (1, .int (nI (dga a (i + 1)))), (3, .int (nI n)), (2, .ref r), (0, .ref r)] [] dl σ A B) : zK x F 10 [(4, .int (nI i)), (1, .int (nI (dga a i))), (3, .int (nI n)), (2, .ref r), (0, .ref r)] [] dl σ A B := by
  refine z_iload (pc := 10) hG 0 rfl dL_digits_10 ?_
  refine z_iload_n (pc := 12) hG 2 rfl rfl dL_digits_12 ?_
  refine z_icmp_ge (pc := 13) (tgt := 36) hG dL_digits_13 rfl (fun hbr => False.elim ((fun h => nI_nle2 hi (by omega) h) hbr)) (fun _ => ?_)
  refine z_aload_n (pc := 16) hG 3 rfl rfl dL_digits_16 ?_
  refine z_iload (pc := 17) hG 0 rfl dL_digits_17 ?_
  refine z_iald (pc := 19) hG hr (vp_in_nI hi (by omega)) dL_digits_19 ?_
  rw [nI_clamp (show i < 2 ^ 31 by omega), hw i hi]
  refine z_istore (pc := 20) (ls' := [(5, .int ((nI (a i)))), (4, .int ((nI i))), (1, .int ((nI (dga a i)))), (3, .int ((nI n))), (2, .ref r), (0, .ref r)]) hG [0, 1, 2, 3, 4, 5] (by decide) rfl dL_digits_20 ?_
  refine z_bipush (pc := 22) (v := (10 : Int32)) hG (by decide) dL_digits_22 ?_
  refine z_iload_n (pc := 24) hG 2 rfl rfl dL_digits_24 ?_
  refine z_imul (pc := 25) hG dL_digits_25 ?_
  rw [show ((10 : Int32) * (nI (dga a i))) = (nI (10 * dga a i)) from pk_mul 10 (dga a i)]
  refine z_iload (pc := 26) hG 0 rfl dL_digits_26 ?_
  refine z_iadd (pc := 28) hG dL_digits_28 ?_
  rw [show ((nI (10 * dga a i)) + (nI (a i))) = (nI (dga a (i + 1))) from nI_add (10 * dga a i) (a i)]
  refine z_istore_n (pc := 29) (ls' := [(1, .int ((nI (dga a (i + 1))))), (5, .int ((nI (a i)))), (4, .int ((nI i))), (3, .int ((nI n))), (2, .ref r), (0, .ref r)]) hG [0, 1, 2, 3, 4, 5] rfl (by decide) rfl dL_digits_29 ?_
  refine z_iinc (pc := 30) (v := (nI (i + 1))) (ls' := [(4, .int ((nI (i + 1)))), (1, .int ((nI (dga a (i + 1))))), (5, .int ((nI (a i)))), (3, .int ((nI n))), (2, .ref r), (0, .ref r)]) hG 2 rfl [0, 1, 2, 3, 4, 5] (nI_1s) (by decide) rfl dL_digits_30 ?_
  refine z_goto (pc := 33) (tgt := 10) hG dL_digits_33 rfl ?_
  refine z_sub [0, 1, 3, 4, 5] rfl ?_
  exact kk
theorem dg_all {l : Launch} {dl : List zDs} {σ : zS} {r n : Nat} {a : Nat → Nat} (hr : dl[r]? = some (.inr (0, n))) (hn : n ≤ 5) (hw : ∀ f, f < n → σ.1 r f = nI (a f)) {x : zXx} {F A B : Nat} (hG : zG x cL_digits 6 RL (Option.some Jvm.ClassFile.FieldType.int)) (kk : zK x F 10 [(4, .int (nI n)), (1, .int (nI (dga a n))), (3, .int (nI n)), (2, .ref r), (0, .ref r)] [] dl σ A B) : ∀ c i, i + c = n → zK x F 10 [(4, .int (nI i)), (1, .int (nI (dga a i))), (3, .int (nI n)), (2, .ref r), (0, .ref r)] [] dl σ A B
  | 0, i, h => by
    obtain rfl : i = n := h
    exact kk
  | c + 1, i, h => dg_one (l := l) hr hn (by omega) hw hG (dg_all (l := l) hr hn hw hG kk c (i + 1) (by omega))
theorem c_dig {l : Launch} (hl0 : l.flags = flags0) {dl : List zDs} {σ : zS} {r n : Nat} {a : Nat → Nat} (hr : dl[r]? = some (.inr (0, n))) (hn : n ≤ 5) (hw : ∀ f, f < n → σ.1 r f = nI (a f)) : zC l yL_digits cL_digits 6 (Option.some Jvm.ClassFile.FieldType.int) 0 0 0 [.ref r] dl σ (.inl (some (.int (nI (dga a n)))), dl, σ) := by
  refine zC_of hl0 rfl (Nat.le_of_ble_eq_true rfl) (fun x hG hxl hk _ => ?_)
  subst hxl
  show zK x 0 0 [(0, .ref r)] [] dl σ 0 0
  refine z_iconst (pc := 0) (v := (0 : Int32)) hG (by decide) dL_digits_0 ?_
  refine z_istore_n (pc := 1) (ls' := [(1, .int ((0 : Int32))), (0, .ref r)]) hG [0, 1] rfl (by decide) rfl dL_digits_1 ?_
  refine z_aload_n (pc := 2) hG 1 rfl rfl dL_digits_2 ?_
  refine z_astore_n (pc := 3) (ls' := [(2, .ref r), (1, .int ((0 : Int32))), (0, .ref r)]) hG [0, 1, 2] rfl (by decide) rfl dL_digits_3 ?_
  refine z_aload_n (pc := 4) hG 0 rfl rfl dL_digits_4 ?_
  refine z_alen (pc := 5) hG hr dL_digits_5 ?_
  refine z_istore_n (pc := 6) (ls' := [(3, .int ((nI n))), (2, .ref r), (1, .int ((0 : Int32))), (0, .ref r)]) hG [0, 1, 2, 3] rfl (by decide) rfl dL_digits_6 ?_
  refine z_iconst (pc := 7) (v := (0 : Int32)) hG (by decide) dL_digits_7 ?_
  refine z_istore (pc := 8) (ls' := [(4, .int ((0 : Int32))), (3, .int ((nI n))), (2, .ref r), (1, .int ((0 : Int32))), (0, .ref r)]) hG [0, 1, 2, 3, 4] (by decide) rfl dL_digits_8 ?_
  refine z_sub (ls' := [(4, .int (nI 0)), (1, .int (nI (dga a 0))), (3, .int (nI n)), (2, .ref r), (0, .ref r)]) [0, 3, 1, 2, 4] rfl ?_
  refine dg_all (l := zl0 x) hr hn hw hG ?_ n 0 (Nat.zero_add n)
  refine z_iload (pc := 10) hG 0 rfl dL_digits_10 ?_
  refine z_iload_n (pc := 12) hG 2 rfl rfl dL_digits_12 ?_
  refine z_icmp_ge (pc := 13) (tgt := 36) hG dL_digits_13 rfl (fun _ => ?_) (fun hbr => False.elim (hbr (Int32.le_refl _)))
  refine z_iload_n (pc := 36) hG 1 rfl rfl dL_digits_36 ?_
  exact z_iret (pc := 37) hG rfl rfl hk dL_digits_37
theorem dL_row_0 : decode cL_row 0 = .ok (.aload_n 0, 1) := by decide +kernel
theorem dL_row_1 : decode cL_row 1 = .ok (.iconst 0, 1) := by decide +kernel
theorem dL_row_2 : decode cL_row 2 = .ok (.invokevirtual 103, 3) := by decide +kernel
theorem dL_row_5 : decode cL_row 5 = .ok (.newarray .int, 2) := by decide +kernel
theorem dL_row_7 : decode cL_row 7 = .ok (.astore_n 2, 1) := by decide +kernel
theorem dL_row_8 : decode cL_row 8 = .ok (.iconst 0, 1) := by decide +kernel
theorem dL_row_9 : decode cL_row 9 = .ok (.istore_n 3, 1) := by decide +kernel
theorem dL_row_10 : decode cL_row 10 = .ok (.iload_n 3, 1) := by decide +kernel
theorem dL_row_11 : decode cL_row 11 = .ok (.aload_n 2, 1) := by decide +kernel
theorem dL_row_12 : decode cL_row 12 = .ok (.arraylength, 1) := by decide +kernel
theorem dL_row_13 : decode cL_row 13 = .ok (.if_icmp .ge 18, 3) := by decide +kernel
theorem dL_row_16 : decode cL_row 16 = .ok (.aload_n 2, 1) := by decide +kernel
theorem dL_row_17 : decode cL_row 17 = .ok (.iload_n 3, 1) := by decide +kernel
theorem dL_row_18 : decode cL_row 18 = .ok (.aload_n 0, 1) := by decide +kernel
theorem dL_row_19 : decode cL_row 19 = .ok (.iload_n 1, 1) := by decide +kernel
theorem dL_row_20 : decode cL_row 20 = .ok (.iload_n 3, 1) := by decide +kernel
theorem dL_row_21 : decode cL_row 21 = .ok (.invokevirtual 112, 3) := by decide +kernel
theorem dL_row_24 : decode cL_row 24 = .ok (.iastore, 1) := by decide +kernel
theorem dL_row_25 : decode cL_row 25 = .ok (.iinc 3 1, 3) := by decide +kernel
theorem dL_row_28 : decode cL_row 28 = .ok (.goto (-18), 3) := by decide +kernel
theorem dL_row_31 : decode cL_row 31 = .ok (.aload_n 2, 1) := by decide +kernel
theorem dL_row_32 : decode cL_row 32 = .ok (.areturn, 1) := by decide +kernel
theorem rw_one {l : Launch} (hl0 : l.flags = flags0) {E : List zDs} (hE : E.all zfr1 = true) {S : zSt} {σ : zS} {i f : Nat} (hi : i < S.2.1.1) (hp5 : pn S.1 ≤ 5) (hf : f < pn S.1) (hc : cI S σ) {A B : Nat} : ∀ x, zG x cL_row 4 RL (Option.some (Jvm.ClassFile.FieldType.array Jvm.ClassFile.FieldType.int)) ∧ zl0 x = l → zK x 10 10 [(3, .int (nI (f + 1))), (2, .ref (zD ++ E).length), (0, .ref 0), (1, .int (nI i))] [] (zD ++ (E ++ [.inr (0, pn S.1)])) (zi σ (zD ++ E).length f (nJ (rv (S.2.1.2.1 i) f))) A B → zK x 10 10 [(3, .int (nI f)), (2, .ref (zD ++ E).length), (0, .ref 0), (1, .int (nI i))] [] (zD ++ (E ++ [.inr (0, pn S.1)])) σ (A + 2) (B + 12) := by
  have hE2 : (E ++ [(.inr (0, pn S.1) : zDs)]).all zfr1 = true := by
    rw [List.all_append, hE]
    rfl
  have hoN : zoks (zD ++ (E ++ [(.inr (0, pn S.1) : zDs)])).length (.ref (zD ++ E).length) = true := zoks_of zatE (by rw [List.length_append, zD_n]; omega)
  rintro x ⟨hG, hxl⟩ kk
  subst hxl
  refine z_iload_n (pc := 10) hG 0 rfl rfl dL_row_10 ?_
  refine z_aload_n (pc := 11) hG 1 rfl rfl dL_row_11 ?_
  refine z_alen (pc := 12) hG zatE dL_row_12 ?_
  refine z_icmp_ge (pc := 13) (tgt := 31) hG dL_row_13 rfl (fun hbr => False.elim ((fun h => nI_nle2 hf (by omega) h) hbr)) (fun _ => ?_)
  refine z_aload_n (pc := 16) hG 1 rfl rfl dL_row_16 ?_
  refine z_iload_n (pc := 17) hG 0 rfl rfl dL_row_17 ?_
  refine z_aload_n (pc := 18) hG 2 rfl rfl dL_row_18 ?_
  refine z_iload_n (pc := 19) hG 3 rfl rfl dL_row_19 ?_
  refine z_iload_n (pc := 20) hG 0 rfl rfl dL_row_20 ?_
  refine z_virtS (pc := 21) (A' := A) (B' := B) (st2 := [.int ((nJ (rv (S.2.1.2.1 i) f))), .int ((nI f)), .ref (zD ++ E).length]) (v := some (.int ((nJ (rv (S.2.1.2.1 i) f))))) hG [.int ((nI i)), .int ((nI f))] [.int ((nI f)), .ref (zD ++ E).length] zc_X10 (zEo_0 _) (q_answer hl0 hE2 hc hi hf) zy_X10_answer ⟨w1261, w1262⟩ w1260 dL_row_21 rfl (Nat.le_of_ble_eq_true rfl) (Nat.le_refl _) (zand rfl (zand hoN rfl)) (zand rfl (zand hoN (zand (zo_0 _) (zand rfl rfl)))) rfl rfl (Nat.le_of_ble_eq_true rfl) rfl rfl ?_
  refine z_iast (pc := 24) hG zatE (vp_in_nI hf (by omega)) dL_row_24 ?_
  rw [nI_clamp (show f < 2 ^ 31 by omega)]
  refine z_iinc (pc := 25) (v := (nI (f + 1))) (ls' := [(3, .int ((nI (f + 1)))), (2, .ref (zD ++ E).length), (0, .ref 0), (1, .int ((nI i)))]) hG 0 rfl [0, 1, 2, 3] (nI_1s) (by decide) rfl dL_row_25 ?_
  refine z_goto (pc := 28) (tgt := 10) hG dL_row_28 rfl ?_
  exact kk
theorem rw_all {l : Launch} (hl0 : l.flags = flags0) {E : List zDs} (hE : E.all zfr1 = true) {S : zSt} {i : Nat} (hi : i < S.2.1.1) (hp5 : pn S.1 ≤ 5) : ∀ (c f : Nat) (σ : zS), f + c = pn S.1 → cI S σ → (∀ e, e < f → σ.1 (zD ++ E).length e = nJ (rv (S.2.1.2.1 i) e)) → ∃ σ', cI S σ' ∧ (∀ e, e < pn S.1 → σ'.1 (zD ++ E).length e = nJ (rv (S.2.1.2.1 i) e)) ∧ zAg (zD ++ E).length σ σ' ∧ ∀ (A B : Nat) x, zG x cL_row 4 RL (Option.some (Jvm.ClassFile.FieldType.array Jvm.ClassFile.FieldType.int)) ∧ zl0 x = l → zK x 10 10 [(3, .int (nI (pn S.1))), (2, .ref (zD ++ E).length), (0, .ref 0), (1, .int (nI i))] [] (zD ++ (E ++ [.inr (0, pn S.1)])) σ' A B → zK x 10 10 [(3, .int (nI f)), (2, .ref (zD ++ E).length), (0, .ref 0), (1, .int (nI i))] [] (zD ++ (E ++ [.inr (0, pn S.1)])) σ (A + 2 * c) (B + 12 * c)
  | 0, f, σ, h, hc, hw => by
    obtain rfl : f = pn S.1 := h
    exact ⟨σ, hc, hw, ⟨fun _ _ => ⟨rfl, rfl⟩, rfl⟩, fun A B x hx kk => kk⟩
  | c + 1, f, σ, h, hc, hw => by
    have hN : 42 ≤ (zD ++ E).length := by rw [List.length_append, zD_n]; omega
    obtain ⟨σ2, h1, h2, h3, h4⟩ := rw_all hl0 hE hi hp5 c (f + 1) (zi σ (zD ++ E).length f (nJ (rv (S.2.1.2.1 i) f))) (by omega) (cI_hi hc (fun c hc => ⟨zi_o (by omega), rfl⟩) rfl) (fun e he => by
      rw [zupd]
      by_cases h9 : e = f
      · rw [h9]; exact pk_us
      · rw [pk_un h9]; exact hw e (by omega))
    refine ⟨σ2, h1, h2, ⟨fun a ha => ⟨((h3.1 a ha).1).trans (zi_o ha), (h3.1 a ha).2⟩, h3.2⟩, fun A B x hx kk => ?_⟩
    exact z_wk (by omega) (by omega) (rw_one hl0 hE hi hp5 (show f < pn S.1 by omega) hc (A := A + 2 * c) (B := B + 12 * c) x hx (h4 A B x hx kk))
theorem c_row {l : Launch} (hl0 : l.flags = flags0) {E : List zDs} (hE : E.all zfr1 = true) (h9 : (zD ++ E).length < 900) (hbl : (zD ++ E).all (zbl (zD ++ E).length) = true) {S : zSt} {σ : zS} {i : Nat} (hi : i < S.2.1.1) (hp4 : pn S.1 ≤ 4) (hc : cI S σ) : ∃ σ', cI S σ' ∧ (∀ e, e < pn S.1 → σ'.1 (zD ++ E).length e = nJ (rv (S.2.1.2.1 i) e)) ∧ zAg (zD ++ E).length σ σ' ∧ zC l yL_row cL_row 4 (Option.some (Jvm.ClassFile.FieldType.array Jvm.ClassFile.FieldType.int)) 10 9 52 [.ref 0, .int (nI i)] (zD ++ E) σ (.inl (some (.ref (zD ++ E).length)), zD ++ (E ++ [.inr (0, pn S.1)]), σ') := by
  have hN : 42 ≤ (zD ++ E).length := by rw [List.length_append, zD_n]; omega
  have hc1 : cI S (zini σ (zD ++ E).length 0) := cI_hi hc (fun c hc => zini_ag.1 c (by omega)) rfl
  obtain ⟨σ1, h1, h2, h3, k1⟩ := rw_all hl0 hE hi (by omega) (pn S.1) 0 (zini σ (zD ++ E).length 0) (Nat.zero_add _) hc1 (fun e he => absurd he (Nat.not_lt_zero e))
  have hnl : ([(0, .ref 0), (1, .int (nI i))] : List (Nat × Value)).all (fun q => zokn (zD ++ E).length q.2) = true := zand (bne_iff_ne.mpr (show (0 : Nat) ≠ (zD ++ E).length by omega)) (zand rfl rfl)
  refine ⟨σ1, h1, h2, ⟨fun a ha => ⟨((h3.1 a ha).1).trans (zini_ag.1 a ha).1, ((h3.1 a ha).2).trans (zini_ag.1 a ha).2⟩, h3.2⟩, ?_⟩
  refine zC_of hl0 rfl (Nat.le_of_ble_eq_true rfl) (fun x hG hxl hk _ => ?_)
  subst hxl
  show zK x 10 0 [(0, .ref 0), (1, .int ((nI i)))] [] (zD ++ E) σ 9 52
  refine z_aload_n (pc := 0) hG 0 rfl rfl dL_row_0 ?_
  refine z_iconst (pc := 1) (v := (0 : Int32)) hG (by decide) dL_row_1 ?_
  refine z_virtS (pc := 2) (A' := 9) (B' := 52) (st2 := [.int ((nI (pn S.1)))]) (v := some (.int ((nI (pn S.1))))) hG [.int ((0 : Int32))] [] zc_X10 (zEo_0 _) (q_count0 hl0 hE hc) zy_X10_count ⟨w480, w481⟩ w479 dL_row_2 rfl (Nat.le_of_ble_eq_true rfl) (Nat.le_refl _) rfl (zand (zo_0 _) (zand rfl rfl)) rfl rfl (Nat.le_of_ble_eq_true rfl) rfl rfl ?_
  refine z_ini (zD ++ E).length 0 (Nat.le_refl _) ?_
  refine z_newa (pc := 5) (A' := 8) (B' := 48 + (4 - pn S.1)) (atype := .int) (t := 0) (N := pn S.1) (z := (pn S.1, .inl (fun _ => 0))) hG wa_int rfl (fun _ => rfl) rfl (fun _ _ => Iff.rfl) (i := (zD ++ E).length) rfl h9 (zbl_all hbl (Nat.le_refl _) (by rw [List.length_append, zD_n]; omega)) (dsc := .inr (0, pn S.1)) (fun ad ca => by show (Sum.inl (ca 0, pn S.1, Sum.inl ((zini σ (zD ++ E).length 0).1 (zD ++ E).length)) : va_E) = _; rw [zini_s]) (fun _ => rfl) (nI_pos (by omega)) (nI_clamp (by omega)) (by show pn S.1 * 4 ≤ 536870912; omega) rfl hnl (dl' := zD ++ (E ++ [.inr (0, pn S.1)])) (List.append_assoc _ _ _) rfl (by omega) dL_row_5 ?_
  refine z_astore_n (pc := 7) (ls' := [(2, .ref (zD ++ E).length), (0, .ref 0), (1, .int ((nI i)))]) hG [0, 1, 2] rfl (by decide) rfl dL_row_7 ?_
  refine z_iconst (pc := 8) (v := (0 : Int32)) hG (by decide) dL_row_8 ?_
  refine z_istore_n (pc := 9) (ls' := [(3, .int ((0 : Int32))), (2, .ref (zD ++ E).length), (0, .ref 0), (1, .int ((nI i)))]) hG [0, 1, 2, 3] rfl (by decide) rfl dL_row_9 ?_
  refine z_wk (A' := 0 + 2 * pn S.1) (B' := 0 + 12 * pn S.1) (by omega) (by omega) ?_
  refine k1 0 0 _ ⟨hG, rfl⟩ ?_
  refine z_iload_n (pc := 10) hG 0 rfl rfl dL_row_10 ?_
  refine z_aload_n (pc := 11) hG 1 rfl rfl dL_row_11 ?_
  refine z_alen (pc := 12) hG zatE dL_row_12 ?_
  refine z_icmp_ge (pc := 13) (tgt := 31) hG dL_row_13 rfl (fun _ => ?_) (fun hbr => False.elim (hbr (Int32.le_refl _)))
  refine z_aload_n (pc := 31) hG 1 rfl rfl dL_row_31 ?_
  exact z_aret (pc := 32) hG rfl hk dL_row_32
