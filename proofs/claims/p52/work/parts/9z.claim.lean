/-! ===== the claim ===== -/
def R_law : String := "EditMenderLaw"
def lw_P (b : Addr) (xs : List Int32) (args : Array Value) (s : State) : Prop := args = #[.ref b] ∧ s.IntsAt b xs ∧ xs.length ≤ 260 ∧ (Jvm.Cond.and given_1 narrow_1).before args s = true
def lw_Q (_ : Array Value) (s : State) (o : Outcome) (t : State) : Prop := o = .returned (some (.int 1)) ∧ Framed s o t [] 600086 7301442
def lw_Z (below : List Frame) (a : Array Value) (s : State) : State → Prop := fun t => ∃ o, t.status = .running ∧ Ended t below o ∧ lw_Q a s o t
/-- the law's own end, with 1 on the stack, nothing written that was there before, its room as the claim has it -/
theorem lw_ret {p : Program} {l : Launch} {e : Env} {s : State} {m : MethodId} {below : List Frame} {meth : Method} {c : Code} {b : Nat} (hx : p.tables.exec = Jvm.exec) (hb : c.code = code) (hr : meth.sig.returnType = ret) (hlocks : meth.locks = false) {pc : Nat} {H : Heap} {ls : Array Slot} (hdg : decode code pc = .ok (.ireturn, 1)) : W p l e room_1 s m #[Value.ref b] below meth c H [] 600086 7301442 (lw_Z below #[Value.ref b] s) (F0 m pc ls [.int 1]) := by
  intro T hT X
  obtain ⟨fs, hret, hrun, hended, hW, hframe⟩ := X.leave (v := some (.int 1)) (hlocks := hlocks) (fun h => by rw [hr] at h; cases h)
  have hmeth' : T.vm.method? m = some meth := X.method'
  refine ⟨T.setFrames fs, ?_, .returned (some (.int 1)), hrun, hended, rfl, ⟨_, rfl⟩, hW, hframe⟩
  jvm_step X.here [X.here.top, hx, hb, hdg, hmeth', hr, ret, narrow_b1]
  (try refine ⟨rfl, ?_⟩); (try refine ⟨rfl, ?_⟩)
  first | (intro acts; rw [hret _ acts rfl rfl rfl]) | rw [hret _ _ rfl rfl rfl]
  exact Steps.refl _
/-- what holds at the law's entry: the machine, the code, the tables' words (any of lw_tbl by 'hts w (by decide +kernel)'), the script of L ints xs at the cell b, what the Statement gives of the start (any of its parts by flat_of_before) -/
def lw_At (p : Program) (s : State) (m : MethodId) (meth : Method) (c : Code) (b L : Nat) (xs : Nat → Int32) : Prop :=
  p.tables.exec = Jvm.exec ∧ c.code = code ∧ meth.sig.returnType = ret ∧ c.maxLocals = 18 ∧ s.vm.findClass R_law = some m.cls ∧ (∀ w ∈ lw_tbl, w.before #[Value.ref b] s = true) ∧ va_X b L xs s s.heap ∧ b < s.heap.size ∧ meth.locks = false ∧ (Jvm.Cond.and given_1 narrow_1).before #[Value.ref b] s = true

theorem w_spec_ca {s : State} {args : Array Value} {ty : FieldType} (h : (Cond.arrayClass ty).before args s = true) (hp : ∀ cA : ClassId, s.vm.findClass ("[" ++ ty.toString) = some cA → va_RA s cA ty) : ∃ cA, ArrOfT s cA ty ∧ va_RA s cA ty := by
  obtain ⟨c, k, comp, h1, h2, h3⟩ := Cond.arrayClass_spec h
  exact ⟨c, fun n z => ⟨fun k h => (by cases h), k, h2, comp, h3⟩, hp c h1⟩
theorem z_toZ {p : Program} {l : Launch} {e : Env} {s : State} {m : MethodId} {below : List Frame} {meth : Method} {c : Code} {b : Nat} {H : Heap} {locs : List Loc} {cells slots : Nat} {D : va_G} {ca : Nat → ClassId} {ad0 : Nat → Nat} {dl' : List zDs} {gf : zS} {g : JFrame} (k : W p l e room_1 s m #[Value.ref b] below meth c H locs cells slots (vx_MQ below (zQc D ca (fun q => s.heap.size ≤ q) ad0 0 (.inl (some (.int 1)), dl', gf)) (zXc D ca (fun q => s.heap.size ≤ q) ad0 0 (.inl (some (.int 1)), dl', gf)) #[Value.ref b] s room_1.cells room_1.slots (zA (fun q => s.heap.size ≤ q))) g) : W p l e room_1 s m #[Value.ref b] below meth c H locs cells slots (lw_Z below #[Value.ref b] s) g := by
  intro T hT X
  obtain ⟨t, a1, o, h1, h2, h3⟩ := k T hT X
  refine ⟨t, a1, o, h1, h2, ?_⟩
  rcases h3 with ⟨⟨⟨v, ad', hv, ho, -⟩, -⟩, L, ⟨⟨v2, hv2⟩, hW, hf⟩, hL⟩ | ⟨q, ho, E, ce, L, ⟨⟨ad', hv, -⟩, -⟩, -⟩
  · cases hv
    refine ⟨ho, ⟨v2, hv2⟩, hW, ?_⟩
    obtain ⟨f1, f2, f3, f4, f5, f6⟩ := hf
    refine ⟨f1, f2, f3, f4, f5, fun a c hc => ?_⟩
    obtain ⟨c', g1, g2, g3, g4⟩ := f6 a c hc
    refine ⟨c', g1, g2, g3, fun i _ => g4 i (fun hm => ?_)⟩
    have h9 : s.heap.size ≤ a := hL _ hm
    have h10 := (Array.getElem?_eq_some_iff.mp hc).1
    omega
  · cases hv
theorem nI_bv (v : Int32) : nI v.toBitVec.toNat = v := by
  apply Int32.toBitVec.inj
  apply BitVec.eq_of_toNat_eq
  show v.toBitVec.toNat % 2 ^ 32 = v.toBitVec.toNat
  exact Nat.mod_eq_of_lt v.toBitVec.isLt
/-- where what never changes lies -/
def zad9 (rK rV tK tV : Nat → Nat) (fq dg b L : Nat) (xs : Nat → Int32) (i : Nat) : Nat :=
  if i < 920 then rK (i - 900) else if i < 940 then rV (i - 920) else if i < 1000 then fq else if i < 1020 then tK (i - 1000) else if i < 1040 then tV (i - 1020) else if i < 1041 then dg else if i < 1042 then b else if i < 1100 then L else (xs (i - 1100)).toBitVec.toNat
set_option maxHeartbeats 4000000 in
set_option maxRecDepth 100000 in
theorem whole_start {p : Program} {e : Env} {s : State} {m : MethodId} {below : List Frame} {meth : Method} {c : Code} (l : Launch) (hflags : l.flags = flags0) (hhtab : ∀ z ∈ c.exceptionTable.toList, False) {b L : Nat} {xs : Nat → Int32} (hL : L ≤ 260) (C0 : lw_At p s m meth c b L xs) : W p l e room_1 s m #[Value.ref b] below meth c s.heap [] 0 0 (lw_Z below #[Value.ref b] s) (entryFrame m ([Value.ref b] : List Value).toArray 18) := by
  obtain ⟨hx, hb, hr, hml, hown, hts0, hX, hbl, hlocks, hgv⟩ := C0
  have hgf : ∀ w ∈ flatC zGv, w.before #[Value.ref b] s = true := flat_of_before _ hgv
  have hts1 : ∀ w ∈ lw_tbl.filter goodWord, w.before #[Value.ref b] s = true := fun w hw => hts0 w (List.mem_filter.mp hw).1
  have hsl : (Cond.selects RJ4 yJ5_isLatin1_aae02 yJ5_isLatin1_aae02).before #[Value.ref b] s = true := hts0 _ (by decide +kernel)
  have hz4 : ∀ y ∈ [yJ5_ensureCapacityInternal_d00df, yJ5_newCapacity_0f7a4, yJ5_putStringAt_47b60, yJ5_inflateIfNeededFor_a7421], (Cond.selects RJ4 y y).before #[Value.ref b] s = true := fun y hy => by
    obtain ⟨⟨h1, h2⟩, h3, h4⟩ := gv_pz y hy
    exact zselp h1 h2 hsl (hts0 _ h3) (hts0 _ h4)
  have hts : ∀ w ∈ zT, w.before #[Value.ref b] s = true := fun w hw => by
    rcases List.mem_append.mp hw with h | h
    · have h9 : zX4 = [yJ5_ensureCapacityInternal_d00df, yJ5_newCapacity_0f7a4, yJ5_putStringAt_47b60, yJ5_inflateIfNeededFor_a7421].map (fun y => Cond.selects RJ4 y y) := rfl
      rw [h9] at h
      obtain ⟨y, hy, rfl⟩ := List.mem_map.mp h
      exact hz4 y hy
    · exact hts1 w h
  have hA : ∀ a : Nat, a < s.heap.size → ¬ zA (fun q => s.heap.size ≤ q) a := fun a ha q => absurd ha (Nat.not_lt.mpr q)
  -- the array classes
  obtain ⟨ci, hi1, hi2⟩ := w_spec_ca (ty := .int) (hts _ wa_int) (fun _ h => h)
  obtain ⟨cb, hb1, hb2⟩ := w_spec_ca (ty := .byte) (hts _ wa_byte) (fun _ h => h)
  obtain ⟨cl, hl1, hl2⟩ := w_spec_ca (ty := .long) (hts _ wa_long) (fun _ h => h)
  have hov : (Cond.arrayOver (.array .int)).before #[Value.ref b] s = true := hts0 _ (by decide +kernel)
  obtain ⟨comp, cy, ky, _, hy2, hy3, hy4⟩ := Cond.arrayOver_specA hov
  have hy1 : ArrOfT s cy (.array .int) := fun n z => ⟨fun k h => (by cases h), ky, hy2, comp, hy3⟩
  -- the classes
  obtain ⟨c0, i0, hKn0⟩ := u_known (C := RX0) (T := TX0) (N := 8) (n := 8) hts inX0 (hts _ w138)
  obtain ⟨c1, i1, hKn1⟩ := u_known (C := RX2) (T := TX2) (N := 6) (n := 6) hts inX2 (hts _ w438)
  obtain ⟨c2, i2, hKn2⟩ := u_known (C := RX4) (T := TX4) (N := 5) (n := 5) hts inX4 (hts _ w723)
  obtain ⟨c3, i3, hKn3⟩ := u_known (C := RX5) (T := TX5) (N := 7) (n := 7) hts inX5 (hts _ w252)
  obtain ⟨c4, i4, hKn4⟩ := u_known (C := RX6) (T := TX6) (N := 11) (n := 11) hts inX6 (hts _ w458)
  obtain ⟨c5, i5, hKn5⟩ := u_known (C := RX7) (T := TX7) (N := 5) (n := 5) hts inX7 (hts _ w593)
  obtain ⟨c6, i6, hKn6⟩ := u_known (C := RX8) (T := TX8) (N := 4) (n := 4) hts inX8 (hts _ w674)
  obtain ⟨c7, i7, hKn7⟩ := u_known (C := RX9) (T := TX9) (N := 2) (n := 2) hts inX9 (hts _ w512)
  obtain ⟨c8, i8, hKn8⟩ := u_known (C := RX10) (T := TX10) (N := 13) (n := 13) hts inX10 (hts _ w39)
  obtain ⟨c9, i9, hKn9⟩ := u_known (C := RX11) (T := TX11) (N := 1) (n := 1) hts inX11 (hts _ w785)
  obtain ⟨c10, i10, hKn10⟩ := u_known (C := RJ4) (T := TJ4) (N := 4) (n := 4) hts inJ4 (hts _ w802)
  obtain ⟨c11, i11, hKn11⟩ := u_known (C := RJ0) (T := TJ0) (N := 4) (n := 4) hts inJ0 (hts _ w1015)
  obtain ⟨D, hKc⟩ : ∃ D : va_G, ∀ (k : Nat) (q : vw_C), zcls[k]? = some q → u_Kn s q.1 q.2.1 q.2.2 (D.1 k) (D.2 k) := by
    refine ⟨(fun k => match k with | 0 => c0 | 1 => c1 | 2 => c2 | 3 => c3 | 4 => c4 | 5 => c5 | 6 => c6 | 7 => c7 | 8 => c8 | 9 => c9 | 10 => c10 | 11 => c11 | _ => c0, fun k => match k with | 0 => i0 | 1 => i1 | 2 => i2 | 3 => i3 | 4 => i4 | 5 => i5 | 6 => i6 | 7 => i7 | 8 => i8 | 9 => i9 | 10 => i10 | 11 => i11 | _ => i0), ?_⟩
    intro k q hq
    match k, hq with
    | 0, hq => cases hq; exact hKn0
    | 1, hq => cases hq; exact hKn1
    | 2, hq => cases hq; exact hKn2
    | 3, hq => cases hq; exact hKn3
    | 4, hq => cases hq; exact hKn4
    | 5, hq => cases hq; exact hKn5
    | 6, hq => cases hq; exact hKn6
    | 7, hq => cases hq; exact hKn7
    | 8, hq => cases hq; exact hKn8
    | 9, hq => cases hq; exact hKn9
    | 10, hq => cases hq; exact hKn10
    | 11, hq => cases hq; exact hKn11
    | k + 12, hq => cases hq
  obtain ⟨ca, ca0, ca1, ca2, ca3, ca4, ca98, ca99⟩ : ∃ ca : Nat → ClassId, ca 0 = ci ∧ ca 1 = cb ∧ ca 2 = ci ∧ ca 3 = cl ∧ ca 4 = cy ∧ ca 98 = 0 ∧ ca 99 = 1 := ⟨fun k => if k = 0 then ci else if k = 1 then cb else if k = 2 then ci else if k = 3 then cl else if k = 4 then cy else if k = 98 then 0 else 1, rfl, rfl, rfl, rfl, rfl, rfl, rfl⟩
  have hK : va_K D zcls (ztys ca) s := by
    refine ⟨hKc, fun k q hq => ?_⟩
    match k, hq with
    | 0, hq => cases hq; rw [ca0]; exact ⟨hi1, hi2⟩
    | 1, hq => cases hq; rw [ca1]; exact ⟨hb1, hb2⟩
    | 2, hq => cases hq; rw [ca2]; exact ⟨hi1, hi2⟩
    | 3, hq => cases hq; rw [ca3]; exact ⟨hl1, hl2⟩
    | 4, hq => cases hq; rw [ca4]; exact ⟨hy1, hy4⟩
    | k + 5, hq => cases hq
  -- what never changes
  obtain ⟨rK, rV, hRS, hRe⟩ := vk_Sof (tm := fun i => Term.string "EditMender$Reader" (zrI.getD i 0)) (len := slen) (byt := sbyt) (N := 9) (A := zA (fun q => s.heap.size ≤ q)) gv_Rh (fun i hi => hgf _ (gv_R1 i hi)) (fun i hi => hgf _ (gv_R2 i hi)) (fun i hi => hgf _ (gv_R3 i hi)) (fun i hi => hgf _ (gv_R4 i hi)) (fun i hi j hj => hgf _ (gv_R5 i hi j hj)) (fun i j hi hj hne => (Nat.lt_or_gt_of_ne hne).imp (fun h => hgf _ (gv_R6 j hj i h)) (fun h => hgf _ (gv_R6 i hi j h))) hA
  obtain ⟨tK, tV, hTS, hTe⟩ := vk_Sof (tm := fun i => Term.string "EditMenderLaw" (zlI.getD i 0)) (len := llen) (byt := lbyt) (N := 15) (A := zA (fun q => s.heap.size ≤ q)) gv_Lh (fun i hi => hgf _ (gv_L1 i hi)) (fun i hi => hgf _ (gv_L2 i hi)) (fun i hi => hgf _ (gv_L3 i hi)) (fun i hi => hgf _ (gv_L4 i hi)) (fun i hi j hj => hgf _ (gv_L5 i hi j hj)) (fun i j hi hj hne => (Nat.lt_or_gt_of_ne hne).imp (fun h => hgf _ (gv_L6 j hj i h)) (fun h => hgf _ (gv_L6 i hi j h))) hA
  obtain ⟨tw, htw, hTw⟩ := va_Tof (s := s) (args := #[Value.ref b]) (tm := Term.static "EditMender$Family" "WITH" "[J") (ty := .long) (N := 6) (f := fun j => .long (zwith.getD j 0)) (A := zA (fun q => s.heap.size ≤ q)) (by decide) (hgf _ (by decide +kernel)) (va_eqt (hgf _ (by decide +kernel))) (fun j hj => va_eqtl (hgf _ (gv_W3 j hj))) hA
  have hZw : va_Z "EditMender$Family" "WITH" "[J" (.ref tw) (zA (fun q => s.heap.size ≤ q)) s s.heap := va_Zref (hts0 _ (by decide +kernel)) (hts0 _ (by decide +kernel)) htw hA
  obtain ⟨dg, hdg, hDg⟩ := va_Tof (s := s) (args := #[Value.ref b]) (tm := Term.static "java/lang/Integer" "DigitOnes" "[B") (ty := .byte) (N := 100) (f := fun j => .int (nI (48 + j % 10))) (A := zA (fun q => s.heap.size ≤ q)) (by decide) (hgf _ gv_D1) (va_eqt (hgf _ gv_D2)) (fun j hj => va_eqt (hgf _ (gv_D3 j hj))) hA
  have hZd : va_Z "java/lang/Integer" "DigitOnes" "[B" (.ref dg) (zA (fun q => s.heap.size ≤ q)) s s.heap := va_Zref (hts0 _ (by decide +kernel)) (hts0 _ (by decide +kernel)) hdg hA
  have hZc : va_Z "java/lang/String" "COMPACT_STRINGS" "Z" (.int 1) (zA (fun q => s.heap.size ≤ q)) s s.heap := va_Zof (hts0 _ (by decide +kernel)) (hts0 _ (by decide +kernel)) (va_eqi (hgf _ (by decide +kernel))) hA
  have hZs : va_Zq "jdk/internal/util/Preconditions" "SIOOBE_FORMATTER" "Ljava/util/function/BiFunction;" (zA (fun q => s.heap.size ≤ q)) s s.heap := va_Zqof (hts0 _ (by decide +kernel)) (hts0 _ (by decide +kernel)) (hgf _ (by decide +kernel)) hA
  obtain ⟨fq, hfq⟩ : ∃ fq : Nat, va_Z "jdk/internal/util/Preconditions" "SIOOBE_FORMATTER" "Ljava/util/function/BiFunction;" .null (zA (fun q => s.heap.size ≤ q)) s s.heap ∨ va_Z "jdk/internal/util/Preconditions" "SIOOBE_FORMATTER" "Ljava/util/function/BiFunction;" (.ref fq) (zA (fun q => s.heap.size ≤ q)) s s.heap := by
    rcases hZs with h | ⟨t, h⟩
    · exact ⟨0, Or.inl h⟩
    · exact ⟨t, Or.inr h⟩
  have hT1 : vx_Zq Bundle.tN "UNASSIGNED_STACK" Bundle.steD (zA (fun q => s.heap.size ≤ q)) s s.heap := vx_Zqof (hts0 _ (by decide +kernel)) (hts0 _ (by decide +kernel)) (hgf _ (by decide +kernel)) hA
  have hT2 : vx_Zq Bundle.tN "SUPPRESSED_SENTINEL" Bundle.listD (zA (fun q => s.heap.size ≤ q)) s s.heap := vx_Zqof (hts0 _ (by decide +kernel)) (hts0 _ (by decide +kernel)) (hgf _ (by decide +kernel)) hA
  have hclo : (Cond.castable "[B" "java/lang/Cloneable").before #[Value.ref b] s = true := hts0 _ (by decide +kernel)
  have hDc : zDc s := ⟨fun x hx => va_any rfl (hts0 _ (gv_dc x hx)), fun E hE => va_any rfl (hts0 _ (gv_ce E hE)), va_any rfl hclo, hov⟩
  have hPx : zPx s := ⟨trivial, fun w hw => va_Nw.of (by revert w; decide) (hts0 _ (gv_nw w hw))⟩
  obtain ⟨ad0, had⟩ : ∃ ad0 : Nat → Nat, ad0 = zad9 rK rV tK tV fq dg b L xs := ⟨_, rfl⟩
  have ad1 : ∀ i, i < 9 → ad0 (900 + i) = rK i := fun i hi => by
    rw [had]; unfold zad9
    rw [if_pos (by omega), show 900 + i - 900 = i by omega]
  have ad2 : ∀ i, i < 9 → ad0 (920 + i) = rV i := fun i hi => by
    rw [had]; unfold zad9
    rw [if_neg (by omega), if_pos (by omega), show 920 + i - 920 = i by omega]
  have ad3 : ∀ i, i < 15 → ad0 (1000 + i) = tK i := fun i hi => by
    rw [had]; unfold zad9
    rw [if_neg (by omega), if_neg (by omega), if_neg (by omega), if_pos (by omega), show 1000 + i - 1000 = i by omega]
  have ad4 : ∀ i, i < 15 → ad0 (1020 + i) = tV i := fun i hi => by
    rw [had]; unfold zad9
    rw [if_neg (by omega), if_neg (by omega), if_neg (by omega), if_neg (by omega), if_pos (by omega), show 1020 + i - 1020 = i by omega]
  have ad5 : ad0 940 = fq := by rw [had]; rfl
  have ad6 : ad0 1040 = dg := by rw [had]; rfl
  have ad7 : ad0 1041 = b := by rw [had]; rfl
  have ad8 : ad0 1042 = L := by rw [had]; rfl
  have ad9 : ∀ j, nI (ad0 (1100 + j)) = xs j := fun j => by
    have e : ad0 (1100 + j) = (xs j).toBitVec.toNat := by
      rw [had]; unfold zad9
      rw [if_neg (by omega), if_neg (by omega), if_neg (by omega), if_neg (by omega), if_neg (by omega), if_neg (by omega), if_neg (by omega), if_neg (by omega), show 1100 + j - 1100 = j by omega]
    rw [e]
    exact nI_bv _
  have hsx : ∀ {n : Nat} {len : List Nat} {byt : List (List Int32)} {K V K2 V2 : Nat → Nat}, (∀ i, i < n → K2 i = K i) → (∀ i, i < n → V2 i = V i) → vk_S n len byt K V (zA (fun q => s.heap.size ≤ q)) s s.heap → vk_S n len byt K2 V2 (zA (fun q => s.heap.size ≤ q)) s s.heap := by
    intro n len byt K V K2 V2 h1 h2 h
    refine ⟨fun i hi => ?_, fun i j hi hj hij => ?_⟩
    · rw [h1 i hi, h2 i hi]
      exact h.1 i hi
    · rw [h1 i hi, h1 j hj] at hij
      exact h.2 i j hi hj hij
  have hTx : va_T .int (ad0 1041) (ad0 1042) (fun j => .int (nI (ad0 (1100 + j)))) (zA (fun q => s.heap.size ≤ q)) s s.heap := by
    rw [ad7, ad8]
    obtain ⟨scr, x1, x2, x3, x4, x5⟩ := hX
    refine ⟨scr, x1, x2, x3, Nat.le_of_eq x4.symm, by rw [x4], fun j hj => ?_, hA _ hbl⟩
    show scr.slots[j]? = some (.int (nI (ad0 (1100 + j))))
    rw [ad9]
    exact x5 j hj
  have hO : zO (fun q => s.heap.size ≤ q) ad0 s s.heap := ⟨fun q hq => hq, hT1, hT2, ⟨tw, hZw, hTw⟩, hsx ad1 ad2 hRS, hsx ad3 ad4 hTS, hZc, by rw [ad5]; exact hfq, hDc, by rw [ad6]; exact hZd, by rw [ad6]; exact hDg, hTx⟩
  have hRs : zRs ad0 s := by
    intro q hq
    have hb9 := hts0 _ (gv_rf q hq)
    rcases gv_rs q hq with ⟨i, hi, he⟩ | ⟨i, hi, he⟩
    · rw [he] at hb9 ⊢
      show vk_R "EditMender$Reader" (zrI.getD i 0) q.2.2.1 (ad0 (900 + i)) s
      rw [ad1 i hi]
      exact vk_R.of hb9 (hRe i hi)
    · rw [he] at hb9 ⊢
      show vk_R "EditMenderLaw" (zlI.getD i 0) q.2.2.1 (ad0 (1000 + i)) s
      rw [ad3 i hi]
      exact vk_R.of hb9 (hTe i hi)
  obtain ⟨dl', gf, hgf9⟩ := c_lawK (l := l) hflags (N := L) (scr := xs)
  refine z_toZ (D := D) (ca := ca) (ad0 := ad0) (dl' := dl') (gf := gf) ?_
  have hG : zG (p, l, e, room_1, s, m, #[Value.ref b], below, meth, c, D, ca, (fun q => s.heap.size ≤ q), ad0, 0, (.inl (some (.int 1)), dl', gf)) cL_law 18 RL (Option.some Jvm.ClassFile.FieldType.boolean) := ⟨hx, hb, hml, hown, hts, hr, hlocks, hhtab, hK, ⟨hO, hRs⟩, hflags⟩
  have walk := hgf9 (p, l, e, room_1, s, m, #[Value.ref b], below, meth, c, D, ca, (fun q => s.heap.size ≤ q), ad0, 0, (.inl (some (.int 1)), dl', gf)) hG rfl rfl (by show ¬ ca 99 = ca 98; rw [ca98, ca99]; decide) rfl ⟨ad8, hL, fun j _ => ad9 j⟩ hPx
  have hle := lv_entry (([.ref b] : List Value)) (n := 18) (Nat.le_of_ble_eq_true rfl)
  rw [lg_entry_eq]
  generalize (lg_sl ([.ref b]) ++ List.replicate (18 - (lg_sl ([.ref b])).length) Slot.unset).toArray = la at hle ⊢
  have hle : lv_has la 18 [(0, .ref b)] := hle
  exact walk ad0 s.heap [] la 0 0 zad.rf (Nat.zero_le _) (fun k q h => by simp [zE_0, zws] at h) ⟨fun i j p q h => by simp [zE_0, zws] at h, fun k q h => by simp [zE_0, zws] at h⟩ va_S.rf (by rw [hml]; show lv_has la 18 [(0, .ref (ad0 1041))]; rw [ad7]; exact hle) (Nat.le_of_ble_eq_true rfl) (Nat.le_of_ble_eq_true rfl) (Nat.le_of_ble_eq_true rfl) (Nat.le_of_ble_eq_true rfl)
set_option maxHeartbeats 4000000 in
theorem lw_walk (l : Launch) (hflags : l.flags = flags0) (b : Addr) (xs : List Int32) : MetFree l x (headSpec (Jvm.Cond.code x code maxLocals ret :: tables_1) room_1) (lw_P b xs) (fun _ _ _ _ _ => True) lw_Q := by
  refine MetFree.of_bodyS (code := code) (maxLocals := maxLocals) (ret := ret) (by decide) ?_ ?_
  · intro args s m h hn
    obtain ⟨meth, c, h1, h2, h3, h4, h5, h6, -, -⟩ := Cond.code_spec hn (atoms_spec (ws := Jvm.Cond.code x code maxLocals ret :: tables_1) h _ List.mem_cons_self)
    exact ⟨meth, c, h1, h2, h3, h4, h5, h6⟩
  · intro p e s m args below meth c s₁ B hml0 hP _
    obtain ⟨rfl, hx, hbd, hgv⟩ := hP
    obtain ⟨scr, harrAt, hlist, hof, hsmall⟩ := hx
    obtain ⟨hcb, hkn, -, -⟩ := State.arrayAt?_spec harrAt
    have hown : s.vm.findClass R_law = some m.cls := findClass_of_methodNamed B.named
    have hts0 : ∀ c ∈ (Jvm.Cond.code x code maxLocals ret :: tables_1), c.before #[Value.ref b] s = true := atoms_spec (ws := Jvm.Cond.code x code maxLocals ret :: tables_1) B.pre
    have hts : ∀ w ∈ lw_tbl, w.before #[Value.ref b] s = true := k2_hts_sels lw_privs (fun w hw => hts0 w (List.mem_cons_of_mem _ hw)) lw_privs_ok
    have hml : c.maxLocals = 18 := B.maxLocals_eq (hts0 _ List.mem_cons_self)
    have ht : ∀ x ∈ c.exceptionTable.toList, False := by
      obtain ⟨meth9, c9, h1, h2, -, -, -, -, h7, -⟩ := Cond.code_spec B.named (hts0 _ List.mem_cons_self)
      cases Option.some.inj (h1.symm.trans B.method)
      cases Option.some.inj (h2.symm.trans (Stand.of_body B).code)
      intro x hx
      rw [Array.isEmpty_iff.mp h7] at hx
      cases hx
    have X₀ : Stand p l e room_1 s m #[Value.ref b] below meth c s₁ [] 0 0 := Stand.of_body B
    have hh0 : s₁.heap = s.heap := by rw [B.state]; rfl
    have hsz : scr.slots.size = xs.length := by rw [← Array.length_toList, hlist, List.length_map]
    have hval : ∀ j : Nat, j < xs.length → scr.slots[j]? = some (.int (xs.getD j 0)) := fun j hj => by
      rw [← Array.getElem?_toList, hlist]
      simp [hj]
    have hbl : b < s.heap.size := (Array.getElem?_eq_some_iff.mp hcb).1
    have hX : va_X b xs.length (fun j => xs.getD j 0) s s.heap := ⟨scr, hcb, hof, hkn, hsz, hval⟩
    have K : W p l e room_1 s m #[Value.ref b] below meth c s₁.heap [] 0 0 (lw_Z below #[Value.ref b] s) (entryFrame m ([Value.ref b] : List Value).toArray 18) := by
      rw [hh0]
      exact whole_start l hflags ht hbd ⟨B.exec, B.bytes, B.returns, hml, hown, hts, hX, hbl, B.notSynchronized, hgv⟩
    obtain ⟨t, a1, o, b1, b2, b3⟩ := K s₁ rfl X₀
    exact ⟨t, o, a1, b1, b2, b3⟩
theorem lw_pre_spec {args : Array Value} {s : State} (h : (Jvm.Cond.and given_1 narrow_1).before args s = true) (hr : rest_1_c.before args s = true) : ∃ (b : Addr) (xs : List Int32), lw_P b xs args s := by
  have hs := flat_of_before _ h
  have hq := flat_of_before _ hr
  have hc : (Cond.count 1).before args s = true := hs _ (by decide +kernel)
  have harr : (Cond.arrayOf (.arg 0) .int).before args s = true := hs _ (by decide +kernel)
  have hle : (Cond.le (.length (.arg 0)) (.int 260)).before args s = true := hs _ (by decide +kernel)
  have hlen : (Cond.isInt (.length (.arg 0))).before args s = true := hq _ (by decide +kernel)
  have hall : (Cond.all (.arg 0) (.isInt (.elem (.arg 0) (.index 0)))).before args s = true := hq _ (by decide +kernel)
  obtain ⟨b, xs, hb, hx⟩ := State.ints_of_pre rfl harr hlen hall
  have hsm : xs.length < 2 ^ 31 := hx.choose_spec.2.2.2
  have hev : (Term.length (.arg 0)).eval args s none [] s = some (.int xs.length.toInt32) := hx.length_eval hb
  have hv := Cond.le_ints hev (show (Term.int 260).eval args s none [] s = some (.int 260) from rfl)
  have hd : xs.length.toInt32 ≤ 260 := by
    simpa [Cond.before, Cond.holds, hv] using hle
  have hN : xs.length ≤ 260 := (Int32.ofNat_le_ofNat hsm (by decide)).mp (show Int32.ofNat xs.length ≤ Int32.ofNat 260 from hd)
  exact ⟨b, xs, Cond.one_arg hc (show args[0]? = some (.ref b) from hb), hx, hN, h⟩
theorem lw_comes (l : Launch) (hflags : l.flags = flags0) : Comes l x (Jvm.Cond.code x code maxLocals ret :: tables_1) room_1 (fun tb e args s => Calls_1 tb e args s ∧ rest_1 tb e args s ∧ Pre_1 tb e args s)
    (fun _ _ args s o t => lw_Q args s o t) := by
  intro p e ha hc hk s m args below hf hfit hheap happ hpre
  obtain ⟨b, xs, hP⟩ := lw_pre_spec hpre.2.2 hpre.2.1
  obtain ⟨k, o, h1, h2, h3, hQ⟩ := lw_walk l hflags b xs p e ha hc hk s m args below hf ((Spec.applies_iff_loose hf).mp happ).1 hP trivial
  exact ⟨k, o, h1, h2, h3, hQ⟩
theorem lw_frame {s t : State} {o : Outcome} {args : Array Value} (h : Framed s o t [] 600086 7301442) :
    Framed s o t (fieldLocs frame_1_writes args s ++ arrayLocs frame_1_arrays args s ++ staticLocs frame_1_statics s) 600086 7301442 := h
theorem lw_limb (L : Cond) (hL : ∀ (args : Array Value) (s t : State), L.after args s (.returned (some (.int 1))) t = true) :
    ArmFor flags0 classFile x code maxLocals ret World_1 tables_1 room_1 Calls_1 rest_1 Pre_1
      (fun tb e a s o t => postC L tb e a s o t ∧ Framed s o t (fieldLocs frame_1_writes a s ++ arrayLocs frame_1_arrays a s ++ staticLocs frame_1_statics s) 600086 7301442) := by
  intro l hflags _ _ p e ha hc hk s m args below hf hfit hheap happ hpre
  obtain ⟨k, o, h1, h2, h3, rfl, hF⟩ := lw_comes l hflags p e ha hc hk s m args below hf hfit hheap happ hpre
  exact ⟨k, _, h1, h2, h3, hL args s _, lw_frame hF⟩
theorem i_vc : Claimed_1_1 ∧ Claimed_1_2 := ⟨lw_limb limb_1_1 (fun args s t => by simp [limb_1_1, Cond.after, Cond.holds, Cond.value]), lw_limb limb_1_2 (fun args s t => Cond.after_iff.mpr (by
  first | (rw [show limb_1_2 = Cond.eq .result (.int 1) from rfl, Cond.eq_ints (x := 1) (y := 1) rfl rfl]; simp; done) | (simp [limb_1_2, Cond.value, Term.eval]; done)))⟩
