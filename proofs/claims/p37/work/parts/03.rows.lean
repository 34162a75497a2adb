
/-! ===== the world as numbers: descriptors of cells, a state, addresses hidden; zK: a walk's place over it ===== -/
/-- the state: ints by cell and place, longs by cell and place, a flag (two rows swapped), the length of one row that grows -/
abbrev zS : Type := (Nat → Nat → Int32) × (Nat → Nat → Int64) × Nat × Nat
/-- a cell: an object (class, its fields: (0, _) a number, (1, r) the cell r, (2, c) one of two swapped cells, else null), or an array (kind, length) -/
abbrev zDs : Type := (Nat × List (Nat × Nat)) ⊕ (Nat × Nat)
abbrev zXx : Type := Program × Launch × Env × Room × State × MethodId × Array Value × List Frame × Method × Code × va_G × (Nat → ClassId) × Nat × (Nat → Nat) × Nat × ((Option Value ⊕ String) × List zDs × zS)
def zF : Nat := 27
def zT1 : Nat := 24
def zT2 : Nat := 25
def zsp (σ : zS) (c : Nat) : Nat := if σ.2.2.1 = c then zT1 else zT2
def zfv (ad : Nat → Nat) (σ : zS) (i k : Nat) : Nat × Nat → Value
  | (0, _) => .int (σ.1 i k)
  | (1, r) => .ref (ad r)
  | (2, c) => .ref (ad (zsp σ c))
  | (_, _) => .null
def zcell (ad : Nat → Nat) (ca : Nat → ClassId) (σ : zS) (i : Nat) : zDs → va_E
  | .inl (ci, fl) => .inr (ci, fl.mapIdx (fun k q => zfv ad σ i k q))
  | .inr (3, n) => .inl (ca 3, n, .inr (.inl (σ.2.1 i)))
  | .inr (4, _) => .inl (ca 0, σ.2.2.2, .inl (σ.1 i))
  | .inr (t, n) => .inl (ca t, n, .inl (σ.1 i))
def zws (ad : Nat → Nat) (ca : Nat → ClassId) (dl : List zDs) (σ : zS) : va_W := dl.mapIdx (fun i d => (ad i, zcell ad ca σ i d))
theorem zws_at {ad : Nat → Nat} {ca : Nat → ClassId} {dl : List zDs} {σ : zS} {i : Nat} {d : zDs} (h : dl[i]? = some d) : (zws ad ca dl σ)[i]? = some (ad i, zcell ad ca σ i d) := by
  simp [zws, List.getElem?_mapIdx, h]
/-- a value with its addresses told -/
def zr (ad : Nat → Nat) : Value → Value
  | .ref i => .ref (ad i)
  | v => v
def zrl (ad : Nat → Nat) (l : List (Nat × Value)) : List (Nat × Value) := l.map (fun q => (q.1, zr ad q.2))
theorem zr_cat (ad : Nat → Nat) (v : Value) : (zr ad v).category = v.category := by cases v <;> rfl
/-- setting a number, a long -/
def zi (σ : zS) (i k : Nat) (x : Int32) : zS := (fun a b => if a = i ∧ b = k then x else σ.1 a b, σ.2)
def zl (σ : zS) (i k : Nat) (x : Int64) : zS := (σ.1, fun a b => if a = i ∧ b = k then x else σ.2.1 a b, σ.2.2)
/-- a whole row of numbers, of longs -/
def zir (σ : zS) (i : Nat) (f : Nat → Int32) : zS := (fun a => if a = i then f else σ.1 a, σ.2)
def zlr (σ : zS) (i : Nat) (f : Nat → Int64) : zS := (σ.1, fun a => if a = i then f else σ.2.1 a, σ.2.2)
def zsw (σ : zS) : zS := (σ.1, σ.2.1, 1 - σ.2.2.1, σ.2.2.2)
theorem zcell_ne {ad : Nat → Nat} {ca : Nat → ClassId} {σ σ' : zS} {j : Nat} (h1 : σ'.1 j = σ.1 j) (h2 : σ'.2.1 j = σ.2.1 j) (h3 : σ'.2.2 = σ.2.2) (d : zDs) : zcell ad ca σ' j d = zcell ad ca σ j d := by
  have hs : ∀ c, zsp σ' c = zsp σ c := fun c => by unfold zsp; rw [h3]
  rcases d with ⟨ci, fl⟩ | ⟨t, n⟩
  · show (Sum.inr (ci, _) : va_E) = Sum.inr (ci, _)
    congr 2
    apply List.ext_getElem?
    intro k
    simp only [List.getElem?_mapIdx]
    congr 1
    funext q
    obtain ⟨a, b⟩ := q
    rcases a with _ | _ | _ | a
    · show Value.int _ = Value.int _
      rw [h1]
    · rfl
    · show Value.ref _ = Value.ref _
      rw [hs]
    · rfl
  · rcases t with _ | _ | _ | _ | _ | t
    · show (Sum.inl (ca 0, n, Sum.inl (σ'.1 j)) : va_E) = Sum.inl (ca 0, n, Sum.inl (σ.1 j))
      rw [h1]
    · show (Sum.inl (ca 1, n, Sum.inl (σ'.1 j)) : va_E) = Sum.inl (ca 1, n, Sum.inl (σ.1 j))
      rw [h1]
    · show (Sum.inl (ca 2, n, Sum.inl (σ'.1 j)) : va_E) = Sum.inl (ca 2, n, Sum.inl (σ.1 j))
      rw [h1]
    · show (Sum.inl (ca 3, n, Sum.inr (Sum.inl (σ'.2.1 j))) : va_E) = Sum.inl (ca 3, n, Sum.inr (Sum.inl (σ.2.1 j)))
      rw [h2]
    · show (Sum.inl (ca 0, σ'.2.2.2, Sum.inl (σ'.1 j)) : va_E) = Sum.inl (ca 0, σ.2.2.2, Sum.inl (σ.1 j))
      rw [h1, h3]
    · show (Sum.inl (ca _, n, Sum.inl (σ'.1 j)) : va_E) = Sum.inl (ca _, n, Sum.inl (σ.1 j))
      rw [h1]
theorem zws_set {ad : Nat → Nat} {ca : Nat → ClassId} {dl : List zDs} {σ σ' : zS} {i : Nat} {d : zDs} {e : va_E} (h : dl[i]? = some d) (he : zcell ad ca σ' i d = e)
    (h1 : ∀ j, j ≠ i → σ'.1 j = σ.1 j) (h2 : ∀ j, j ≠ i → σ'.2.1 j = σ.2.1 j) (h3 : σ'.2.2 = σ.2.2) : (zws ad ca dl σ).set i (ad i, e) = zws ad ca dl σ' := by
  apply List.ext_getElem?
  intro j
  rw [List.getElem?_set]
  by_cases hj : i = j
  · subst hj
    have hl : i < (zws ad ca dl σ).length := (List.getElem?_eq_some_iff.mp (zws_at (ad := ad) (ca := ca) (σ := σ) h)).1
    rw [if_pos rfl, if_pos hl, zws_at h, he]
  · rw [if_neg hj]
    have hj' : j ≠ i := fun q => hj q.symm
    simp only [zws, List.getElem?_mapIdx]
    congr 1
    funext d
    rw [zcell_ne (h1 j hj') (h2 j hj') h3]

def zA (b0 : Nat) : Nat → Prop := fun q => b0 ≤ q
def zwith : List Int64 := [-6148914691236517206, -3689348814741910324, -1085102592571150096, -71777214294589696, -281470681808896, -4294967296]
def slen : List Nat := [5, 5, 6, 6, 5, 4, 3, 2, 3]
def sbyt : List (List Int32) := [[102, 105, 101, 108, 100], [110, 97, 109, 101, 100], [115, 99, 97, 108, 101, 100], [119, 101, 105, 103, 104, 116], [103, 114, 111, 117, 112], [101, 100, 105, 116], [97, 110, 100], [105, 110], [114, 111, 119]]
def zrefs : List (String × Nat × String × Nat) := [("EditMender$Reader", 54, "field", 900), ("EditMender$Reader", 98, "named", 901), ("EditMender$Reader", 100, "scaled", 902), ("EditMender$Reader", 109, "weight", 903), ("EditMender$Reader", 63, "group", 904), ("EditMender$Reader", 71, "edit", 905), ("EditMender$Reader", 139, "and", 906), ("EditMender$Reader", 134, "in", 907), ("EditMender$Reader", 79, "row", 908), ("EditMenderModel", 148, "field", 910), ("EditMenderModel", 150, "named", 911), ("EditMenderModel", 152, "scaled", 912), ("EditMenderModel", 153, "weight", 913), ("EditMenderModel", 154, "group", 914), ("EditMenderModel", 155, "edit", 915), ("EditMenderModel", 157, "and", 916), ("EditMenderModel", 159, "in", 917), ("EditMenderModel", 161, "row", 918)]
def zdcl : List MethodName := [⟨"java/lang/RuntimeException", "<init>", "()V"⟩, ⟨"java/lang/Exception", "<init>", "()V"⟩, ⟨"java/lang/Throwable", "<init>", "()V"⟩]
def zexs : List String := ["java/lang/IllegalArgumentException", "java/lang/IndexOutOfBoundsException", "java/util/NoSuchElementException", "java/lang/IllegalStateException"]
def zDc (U : State) : Prop := (∀ x ∈ zdcl, (Cond.declares x).before #[] U = true) ∧ ∀ E ∈ zexs, (Cond.castable E E).before #[] U = true
theorem zDc_tr {U : State} {V : Vm} {c : Cond} (hV : U.vm = V) (hc : c.onTables = true) {u : State} (h : c.before #[] (u.setVm U.vm) = true) : c.before #[] U = true := by
  have e := Cond.onTables_vm (A := #[]) (A' := #[]) (U := u) (U' := U) U.vm c hc
  have hU : U.setVm U.vm = U := rfl
  rw [hU] at e
  rw [← e]
  exact h
theorem zDc.moved {u U : State} (hvm : u.vm.Alike U.vm) (h : zDc u) : zDc U := ⟨fun x hx => zDc_tr rfl rfl (u := u) (by rw [Cond.declares_setVm hvm]; exact h.1 x hx), fun E hE => zDc_tr rfl rfl (u := u) (by rw [Cond.castable_setVm hvm]; exact h.2 E hE)⟩
theorem zDc.use {A : Array Value} {U : State} (h : zDc U) : ∀ w ∈ zdcl.map Cond.declares ++ zexs.map (fun E => Cond.castable E E), w.before A U = true := by
  intro w hw
  rcases List.mem_append.mp hw with hw | hw
  · obtain ⟨x, hx, rfl⟩ := List.mem_map.mp hw
    exact va_any rfl (h.1 x hx)
  · obtain ⟨x, hx, rfl⟩ := List.mem_map.mp hw
    exact va_any rfl (h.2 x hx)
/-- what lies below b0 and never changes: the table of a class, the texts of two classes (cells 900.., 910..; their bytes 920.., 930..), two statics of the JDK -/
def zOx (b0 : Nat) (ad : Nat → Nat) (U : State) (H : Heap) : Prop :=
  (∃ t : Nat, va_Z "EditMender$Family" "WITH" "[J" (.ref t) (zA b0) U H ∧ va_T .long t 6 (fun j => .long (zwith.getD j 0)) (zA b0) U H) ∧ vk_S 9 slen sbyt (fun i => ad (900 + i)) (fun i => ad (920 + i)) (zA b0) U H ∧ vk_S 9 slen sbyt (fun i => ad (910 + i)) (fun i => ad (930 + i)) (zA b0) U H ∧ va_Z "java/lang/String" "COMPACT_STRINGS" "Z" (.int 1) (zA b0) U H ∧
  (va_Z "jdk/internal/util/Preconditions" "SIOOBE_FORMATTER" "Ljava/util/function/BiFunction;" .null (zA b0) U H ∨ va_Z "jdk/internal/util/Preconditions" "SIOOBE_FORMATTER" "Ljava/util/function/BiFunction;" (.ref (ad 940)) (zA b0) U H) ∧ zDc U
theorem zOx.moved {b0 : Nat} {ad : Nat → Nat} {u U : State} {H : Heap} (hvm : u.vm.Alike U.vm) (h : zOx b0 ad u H) : zOx b0 ad U H := by
  obtain ⟨⟨t, h1, h2⟩, h3, h4, h5, h6, h7⟩ := h
  exact ⟨⟨t, h1.moved hvm, h2.moved hvm⟩, h3.moved hvm, h4.moved hvm, h5.moved hvm, h6.imp (fun q => q.moved hvm) (fun q => q.moved hvm), h7.moved hvm⟩
theorem zOx.kept {b0 : Nat} {ad : Nat → Nat} {U : State} {H H1 : Heap} (h : zOx b0 ad U H) (hq : ∀ a : Nat, a < H.size → ¬ zA b0 a → H1[a]? = H[a]?) : zOx b0 ad U H1 := by
  obtain ⟨⟨t, h1, h2⟩, h3, h4, h5, h6, h7⟩ := h
  exact ⟨⟨t, h1.kept hq, h2.kept hq⟩, h3.kept hq, h4.kept hq, h5.kept hq, h6.imp (fun q => q.kept hq) (fun q => q.kept hq), h7⟩
theorem zOx.ad {b0 : Nat} {ad ad' : Nat → Nat} {U : State} {H : Heap} (h : zOx b0 ad U H) (hq : ∀ i, 900 ≤ i → ad' i = ad i) : zOx b0 ad' U H := by
  obtain ⟨h1, h3, h4, h5, h6, h7⟩ := h
  have e1 : (fun i => ad' (900 + i)) = (fun i => ad (900 + i)) := funext fun i => hq _ (Nat.le_add_right _ _)
  have e2 : (fun i => ad' (920 + i)) = (fun i => ad (920 + i)) := funext fun i => hq _ (by omega)
  have e3 : (fun i => ad' (910 + i)) = (fun i => ad (910 + i)) := funext fun i => hq _ (by omega)
  have e4 : (fun i => ad' (930 + i)) = (fun i => ad (930 + i)) := funext fun i => hq _ (by omega)
  have e5 : ad' 940 = ad 940 := hq _ (by omega)
  refine ⟨h1, ?_, ?_, h5, ?_, h7⟩
  · rw [e1, e2]; exact h3
  · rw [e3, e4]; exact h4
  · rw [e5]; exact h6
/-- the texts as a constant pool has them -/
def zRs (ad : Nat → Nat) (U : State) : Prop := ∀ q ∈ zrefs, vk_R q.1 q.2.1 q.2.2.1 (ad q.2.2.2) U
theorem zRs.same {ad : Nat → Nat} {u U : State} (hv : U.vm = u.vm) (h : zRs ad u) : zRs ad U := fun q hq => vk_R.same hv (h q hq)
theorem zRs.warm {ad : Nat → Nat} {s U : State} (hW : s.WarmedH U.vm) (h : zRs ad s) : zRs ad U := fun q hq => vk_R.warm hW (h q hq)
theorem zRs.ad {ad ad' : Nat → Nat} {U : State} (h : zRs ad U) (hq : ∀ i, 900 ≤ i → ad' i = ad i) : zRs ad' U := by
  have hk : ∀ q ∈ zrefs, 900 ≤ q.2.2.2 := by decide
  intro q hm
  rw [hq _ (hk q hm)]
  exact h q hm

/-! ===== contracts and places over the world of numbers ===== -/
def zcls : List vw_C := [(RX0, TX0, 8), (RX2, TX2, 6), (RX4, TX4, 5), (RX5, TX5, 7), (RX6, TX6, 11), (RX7, TX7, 5), (RX8, TX8, 4), (RX9, TX9, 2), (RX10, TX10, 13), (RX11, TX11, 47)]
def ztys (ca : Nat → ClassId) : List (ClassId × FieldType) := [(ca 0, .int), (ca 1, .byte), (ca 2, .boolean), (ca 3, .long)]
/-- the words that every method has: the tables' good ones -/
def zT : List Cond := lw_tbl.filter goodWord
theorem zT_good {w : Cond} (h : w ∈ zT) : (w.onTables && w.keeps) = true ∨ ∃ ty, w = .arrayClass ty := good_of_word (List.mem_filter.mp h).2
theorem zT_in (i : Nat) {w : Cond} (h : lw_tbl[i]? = some w) (hg : goodWord w = true) : w ∈ zT := List.mem_filter.mpr ⟨List.mem_of_getElem? h, hg⟩
theorem zT_sub {ws : List Cond} (h : ws.all (fun w => lw_tbl.contains w && goodWord w) = true) : ∀ w ∈ ws, w ∈ zT := by
  intro w hw
  have h1 := List.all_eq_true.mp h w hw
  rw [Bool.and_eq_true, List.contains_iff_mem] at h1
  exact List.mem_filter.mpr h1
/-- what lies below b0 and is never written: the throwing kit's two statics -/
def zO (b0 : Nat) (ad : Nat → Nat) (U : State) (H : Heap) : Prop := b0 ≤ H.size ∧ vx_Zq Bundle.tN "UNASSIGNED_STACK" Bundle.steD (zA b0) U H ∧ vx_Zq Bundle.tN "SUPPRESSED_SENTINEL" Bundle.listD (zA b0) U H ∧ zOx b0 ad U H
theorem zO.moved {b0 : Nat} {ad : Nat → Nat} {u U : State} {H : Heap} (hvm : u.vm.Alike U.vm) (h : zO b0 ad u H) : zO b0 ad U H := ⟨h.1, vx_Zq.moved hvm h.2.1, vx_Zq.moved hvm h.2.2.1, zOx.moved hvm h.2.2.2⟩
theorem zO.kept {b0 : Nat} {ad : Nat → Nat} {U : State} {H H1 : Heap} (h : zO b0 ad U H) (hz : H.size ≤ H1.size) (hq : ∀ a : Nat, a < H.size → ¬ zA b0 a → H1[a]? = H[a]?) : zO b0 ad U H1 := ⟨Nat.le_trans h.1 hz, vx_Zq.kept h.2.1 hq, vx_Zq.kept h.2.2.1 hq, zOx.kept h.2.2.2 hq⟩
theorem zO.ad {b0 : Nat} {ad ad' : Nat → Nat} {U : State} {H : Heap} (h : zO b0 ad U H) (hq : ∀ i, 900 ≤ i → ad' i = ad i) : zO b0 ad' U H := ⟨h.1, h.2.1, h.2.2.1, zOx.ad h.2.2.2 hq⟩
def zad (n : Nat) (ad ad' : Nat → Nat) : Prop := ∀ i, i < n ∨ 900 ≤ i → i ≠ zF → ad' i = ad i
theorem zad.hi {n : Nat} {ad ad' : Nat → Nat} (h : zad n ad ad') : ∀ i, 900 ≤ i → ad' i = ad i := fun i hi => h i (.inr hi) (fun q => by rw [q] at hi; exact absurd hi (by decide))
theorem zad.rf {n : Nat} {ad : Nat → Nat} : zad n ad ad := fun _ _ _ => rfl
theorem zad.tr {n n' : Nat} {a b c : Nat → Nat} (h : zad n a b) (hn : n ≤ n') (h' : zad n' b c) : zad n a c := fun i hi hf => (h' i (hi.imp (fun q => Nat.lt_of_lt_of_le q hn) (fun q => q)) hf).trans (h i hi hf)
def zWD (D : va_G) (ca : Nat → ClassId) (b0 : Nat) (ad : Nat → Nat) (dl : List zDs) (σ : zS) (U : State) : Prop :=
  va_P D zcls (zws ad ca dl σ) U.heap ∧ va_K D zcls (ztys ca) U ∧ va_D (zA b0) (zws ad ca dl σ) ∧ zO b0 ad U U.heap
abbrev zO3 : Type := (Option Value ⊕ String) × List zDs × zS
def zQc (D : va_G) (ca : Nat → ClassId) (b0 : Nat) (ad : Nat → Nat) (n : Nat) (tg : zO3) : Array Value → State → Outcome → State → Prop := fun _ st oc t =>
  (∃ (v : Option Value) (ad' : Nat → Nat), tg.1 = .inl v ∧ oc = .returned (v.map (zr ad')) ∧ zad n ad ad' ∧ zWD D ca b0 ad' tg.2.1 tg.2.2 t) ∧ va_F (zA b0) st t
def zXc (D : va_G) (ca : Nat → ClassId) (b0 : Nat) (ad : Nat → Nat) (n : Nat) (tg : zO3) : String → State → State → Prop := fun E st t =>
  (∃ ad' : Nat → Nat, tg.1 = .inr E ∧ zad n ad ad' ∧ zWD D ca b0 ad' tg.2.1 tg.2.2 t) ∧ va_F (zA b0) st t
def zrm (fr nc ns : Nat) : Room := { frames := 2 * fr + 20, cells := nc, slots := ns, locals := 50 * fr + 200 }
/-- the contract: y over the arguments and the state comes to tg, with at most nc new cells of ns slots; fr: how deep it calls -/
def zC (l : Launch) (y : MethodName) (cc : ByteArray) (maxL : Nat) (ret : Option FieldType) (fr nc ns : Nat) (av : List Value) (dl : List zDs) (σ : zS) (tg : zO3) : Prop :=
  ∀ (D : va_G) (ca : Nat → ClassId) (b0 : Nat) (ad : Nat → Nat), vx_Met l y (.code y cc maxL ret :: zT) (zrm fr nc ns) (va_Pc (av.map (zr ad)) (fun U => zWD D ca b0 ad dl σ U ∧ zRs ad U)) (zQc D ca b0 ad dl.length tg) (zXc D ca b0 ad dl.length tg) nc ns (zA b0)
/-- what holds in a walk of a method -/
def zG (x : zXx) (cc : ByteArray) (nL : Nat) (own : String) (ret : Option FieldType) : Prop := match x with
  | (p, l, e, R, s, m, args, below, meth, c, D, ca, b0, ad0, n0, tg) => p.tables.exec = Jvm.exec ∧ c.code = cc ∧ c.maxLocals = nL ∧ s.vm.findClass own = some m.cls ∧ (∀ w ∈ zT, w.before args s = true) ∧ meth.sig.returnType = ret ∧ meth.locks = false ∧ (∀ z ∈ c.exceptionTable.toList, False) ∧ va_K D zcls (ztys ca) s ∧ (zO b0 ad0 s s.heap ∧ zRs ad0 s) ∧ l.flags = flags0
/-- a place of the walk: pc, locals, stack, the world; A, B: the cells and slots that may still be made; F: how deep it may still call -/
def zK (x : zXx) (F : Nat) (pc : Nat) (ls : List (Nat × Value)) (st : List Value) (dl : List zDs) (σ : zS) (A B : Nat) : Prop := match x with
  | (p, l, e, R, s, m, args, below, meth, c, D, ca, b0, ad0, n0, tg) => ∀ (ad : Nat → Nat) (H : Heap) (locs : List Loc) (la : Array Slot) (cells slots : Nat), zad n0 ad0 ad → n0 ≤ dl.length → va_P D zcls (zws ad ca dl σ) H → va_D (zA b0) (zws ad ca dl σ) → va_S (zA b0) s.heap H locs → lv_has la c.maxLocals (zrl ad ls) → cells + A ≤ R.cells → slots + B ≤ R.slots → 2 * F + 20 ≤ R.frames → 50 * F + 200 ≤ R.locals →
      W p l e R s m args below meth c H locs cells slots (vx_MQ below (zQc D ca b0 ad0 n0 tg) (zXc D ca b0 ad0 n0 tg) args s R.cells R.slots (zA b0)) (F0 m pc la (st.map (zr ad)))
def ztg (x : zXx) : zO3 := x.2.2.2.2.2.2.2.2.2.2.2.2.2.2.2
def zl0 (x : zXx) : Launch := x.2.1
/-- the locals of an entry -/
theorem zrl_args (ad : Nat → Nat) : ∀ (vs : List Value) (i : Nat), lv_args i (vs.map (zr ad)) = zrl ad (lv_args i vs) := by
  intro vs
  induction vs with
  | nil => intro i; rfl
  | cons v t ih =>
    intro i
    show (i, zr ad v) :: lv_args (if (zr ad v).category = 2 then i + 2 else i + 1) (t.map (zr ad)) = (i, zr ad v) :: zrl ad (lv_args (if v.category = 2 then i + 2 else i + 1) t)
    rw [zr_cat, ih]
theorem zr_len (ad : Nat → Nat) (vs : List Value) : (lg_sl (vs.map (zr ad))).length = (lg_sl vs).length := by
  induction vs with
  | nil => rfl
  | cons v t ih =>
    simp only [lg_sl, List.map_cons, List.flatMap_cons, List.length_append] at ih ⊢
    rw [ih, zr_cat]
    congr 1
    split <;> rfl
/-- a contract out of a walk -/
theorem zC_of {l : Launch} (hl : l.flags = flags0) {y : MethodName} {cc : ByteArray} {maxL : Nat} {ret : Option FieldType} {fr nc ns : Nat} {av : List Value} {dl : List zDs} {σ : zS} {tg : zO3} (hy : plainName y.cls = true) (hn : (lg_sl av).length ≤ maxL)
    (body : ∀ x : zXx, zG x cc maxL y.cls ret → zl0 x = l → ztg x = tg → x.2.2.2.2.2.2.2.2.1.name = y.name → zK x fr 0 (lv_args 0 av) [] dl σ nc ns) : zC l y cc maxL ret fr nc ns av dl σ tg := by
  intro D ca b0 ad
  refine vx_ofW (cc := cc) (maxL := maxL) (ret := ret) hy rfl ?_
  intro p e s m args below meth c s₁ B hml htab hv
  obtain ⟨rfl, ⟨hP, hK, hD, hO⟩, hR⟩ := hv
  have hts := atoms_spec (ws := .code y cc maxL ret :: zT) B.pre
  have hown : s.vm.findClass y.cls = some m.cls := findClass_of_methodNamed B.named
  have hin : meth.name = y.name := (name_of_methodNamed B.named B.method).1
  have hk := body (p, l, e, (headSpec (.code y cc maxL ret :: zT) (zrm fr nc ns)).room, s, m, (av.map (zr ad)).toArray, below, meth, c, D, ca, b0, ad, dl.length, tg) ⟨B.exec, B.bytes, hml, hown, fun w h => hts w (List.mem_cons_of_mem _ h), B.returns, B.notSynchronized, htab, hK, ⟨hO, hR⟩, hl⟩ rfl rfl hin
  have hle := lv_entry (av.map (zr ad)) (n := maxL) (by rw [zr_len]; exact hn)
  rw [lg_entry_eq]
  generalize (lg_sl (av.map (zr ad)) ++ List.replicate (maxL - (lg_sl (av.map (zr ad))).length) Slot.unset).toArray = la at hle ⊢
  rw [zrl_args] at hle
  exact hk ad s.heap [] la 0 0 zad.rf (Nat.le_refl _) hP hD va_S.rf (by rw [hml]; exact hle) (by rw [Nat.zero_add]; exact Nat.le_refl _) (by rw [Nat.zero_add]; exact Nat.le_refl _) (Nat.le_refl _) (Nat.le_refl _)

/-- lcmp's answer -/
theorem zrl_at {ad : Nat → Nat} {ls : List (Nat × Value)} {k i : Nat} {v : Value} (h : ls[k]? = some (i, v)) : (zrl ad ls)[k]? = some (i, zr ad v) := by
  simp [zrl, h]
theorem zrl_filter {ad : Nat → Nat} {ls : List (Nat × Value)} {g : Nat × Value → Bool} (hg : ∀ q : Nat × Value, g (q.1, zr ad q.2) = g q) : (zrl ad ls).filter g = zrl ad (ls.filter g) := by
  induction ls with
  | nil => rfl
  | cons a t ih =>
    show List.filter g ((a.1, zr ad a.2) :: zrl ad t) = zrl ad (List.filter g (a :: t))
    rw [List.filter_cons, List.filter_cons, hg a, ih]
    cases g a <;> rfl
theorem zrl_pick {ad : Nat → Nat} {la : Array Slot} {nL : Nat} {ls ls' : List (Nat × Value)} {ps : List Nat} (h : lv_has la nL (zrl ad ls)) (hp : lv_pick ls ps = ls') : lv_has la nL (zrl ad ls') := by
  subst hp
  refine ⟨h.1, h.2.1, fun q hq => ?_⟩
  obtain ⟨q0, h0, rfl⟩ := List.mem_map.mp hq
  obtain ⟨k, hk, hk2⟩ := List.mem_filterMap.mp h0
  exact h.2.2 _ (List.mem_map.mpr ⟨q0, List.mem_of_getElem? hk2, rfl⟩)
theorem z_sub {x : zXx} {F pc : Nat} {ls ls' : List (Nat × Value)} {st : List Value} {dl : List zDs} {σ : zS} {A B : Nat} (ps : List Nat) (hp : lv_pick ls ps = ls') (k : zK x F pc ls' st dl σ A B) : zK x F pc ls st dl σ A B := by
  obtain ⟨p, l, e, R, s, m, args, below, meth, c, D, ca, b0, ad0, n0, tg⟩ := x
  intro ad H locs la cells slots h1 h2 h3 h4 h5 h6 h7 h8 h9 h10
  exact k ad H locs la cells slots h1 h2 h3 h4 h5 (zrl_pick h6 hp) h7 h8 h9 h10
section ZR
variable {x : zXx} {cc : ByteArray} {nL : Nat} {own : String} {ret : Option FieldType} {F pc : Nat} {ls : List (Nat × Value)} {st : List Value} {dl : List zDs} {σ : zS} {A B : Nat}
theorem z_iconst {n : Int} {v : Int32} (hG : zG x cc nL own ret) (hv : Int32.ofInt n = v) (hd : decode cc pc = .ok (.iconst n, 1))
    (k : zK x F (pc + 1) ls (.int v :: st) dl σ A B) : zK x F pc ls (st) dl σ A B := by
  obtain ⟨p, l, e, R, s, m, args, below, meth, c, D, ca, b0, ad0, n0, tg⟩ := x
  obtain ⟨hx, hb, hml, hown, hts, hret, hlk, htab, hKs, hOs, hfl⟩ := hG
  intro ad H locs la cells slots h1 h2 h3 h4 h5 h6 h7 h8 h9 h10
  exact lv_iconst hx hb hd hv (k ad H locs la cells slots h1 h2 h3 h4 h5 h6 h7 h8 h9 h10)
theorem z_bipush {n : Int} {v : Int32} (hG : zG x cc nL own ret) (hv : (Int8.ofInt n).toInt32 = v) (hd : decode cc pc = .ok (.bipush n, 2))
    (k : zK x F (pc + 2) ls (.int v :: st) dl σ A B) : zK x F pc ls (st) dl σ A B := by
  obtain ⟨p, l, e, R, s, m, args, below, meth, c, D, ca, b0, ad0, n0, tg⟩ := x
  obtain ⟨hx, hb, hml, hown, hts, hret, hlk, htab, hKs, hOs, hfl⟩ := hG
  intro ad H locs la cells slots h1 h2 h3 h4 h5 h6 h7 h8 h9 h10
  exact lv_bipush hx hb hd hv (k ad H locs la cells slots h1 h2 h3 h4 h5 h6 h7 h8 h9 h10)
theorem z_sipush {n : Int} {v : Int32} (hG : zG x cc nL own ret) (hv : (Int16.ofInt n).toInt32 = v) (hd : decode cc pc = .ok (.sipush n, 3))
    (k : zK x F (pc + 3) ls (.int v :: st) dl σ A B) : zK x F pc ls (st) dl σ A B := by
  obtain ⟨p, l, e, R, s, m, args, below, meth, c, D, ca, b0, ad0, n0, tg⟩ := x
  obtain ⟨hx, hb, hml, hown, hts, hret, hlk, htab, hKs, hOs, hfl⟩ := hG
  intro ad H locs la cells slots h1 h2 h3 h4 h5 h6 h7 h8 h9 h10
  exact lv_sipush hx hb hd hv (k ad H locs la cells slots h1 h2 h3 h4 h5 h6 h7 h8 h9 h10)
theorem z_lconst {n : Fin 2} {v : Int64} (hG : zG x cc nL own ret) (hv : Int64.ofNat (n : Nat) = v) (hd : decode cc pc = .ok (.lconst n, 1))
    (k : zK x F (pc + 1) ls (.long v :: st) dl σ A B) : zK x F pc ls (st) dl σ A B := by
  obtain ⟨p, l, e, R, s, m, args, below, meth, c, D, ca, b0, ad0, n0, tg⟩ := x
  obtain ⟨hx, hb, hml, hown, hts, hret, hlk, htab, hKs, hOs, hfl⟩ := hG
  intro ad H locs la cells slots h1 h2 h3 h4 h5 h6 h7 h8 h9 h10
  exact lv_lconst hx hb hd hv (k ad H locs la cells slots h1 h2 h3 h4 h5 h6 h7 h8 h9 h10)
theorem z_ldc {i : Nat} {v : Int32} (hG : zG x cc nL own ret) (hv : Jvm.Cond.constant own i v ∈ zT) (hd : decode cc pc = .ok (.ldc i, 2))
    (k : zK x F (pc + 2) ls (.int v :: st) dl σ A B) : zK x F pc ls (st) dl σ A B := by
  obtain ⟨p, l, e, R, s, m, args, below, meth, c, D, ca, b0, ad0, n0, tg⟩ := x
  obtain ⟨hx, hb, hml, hown, hts, hret, hlk, htab, hKs, hOs, hfl⟩ := hG
  intro ad H locs la cells slots h1 h2 h3 h4 h5 h6 h7 h8 h9 h10
  exact lv_ldc hx hb hown (hts _ hv) hd (k ad H locs la cells slots h1 h2 h3 h4 h5 h6 h7 h8 h9 h10)
theorem z_ldcw {i : Nat} {v : Int32} (hG : zG x cc nL own ret) (hv : Jvm.Cond.constant own i v ∈ zT) (hd : decode cc pc = .ok (.ldc_w i, 3))
    (k : zK x F (pc + 3) ls (.int v :: st) dl σ A B) : zK x F pc ls (st) dl σ A B := by
  obtain ⟨p, l, e, R, s, m, args, below, meth, c, D, ca, b0, ad0, n0, tg⟩ := x
  obtain ⟨hx, hb, hml, hown, hts, hret, hlk, htab, hKs, hOs, hfl⟩ := hG
  intro ad H locs la cells slots h1 h2 h3 h4 h5 h6 h7 h8 h9 h10
  exact lv_ldcw hx hb hown (hts _ hv) hd (k ad H locs la cells slots h1 h2 h3 h4 h5 h6 h7 h8 h9 h10)
theorem z_ldc2 {i : Nat} {v : Int64} (hG : zG x cc nL own ret) (hv : Jvm.Cond.constantLong own i v ∈ zT) (hd : decode cc pc = .ok (.ldc2_w i, 3))
    (k : zK x F (pc + 3) ls (.long v :: st) dl σ A B) : zK x F pc ls (st) dl σ A B := by
  obtain ⟨p, l, e, R, s, m, args, below, meth, c, D, ca, b0, ad0, n0, tg⟩ := x
  obtain ⟨hx, hb, hml, hown, hts, hret, hlk, htab, hKs, hOs, hfl⟩ := hG
  intro ad H locs la cells slots h1 h2 h3 h4 h5 h6 h7 h8 h9 h10
  exact lv_ldc2 hx hb hown (hts _ hv) hd (k ad H locs la cells slots h1 h2 h3 h4 h5 h6 h7 h8 h9 h10)
theorem z_iadd {a b : Int32} (hG : zG x cc nL own ret)  (hd : decode cc pc = .ok (.iadd, 1))
    (k : zK x F (pc + 1) ls (.int (a + b) :: st) dl σ A B) : zK x F pc ls (.int b :: .int a :: st) dl σ A B := by
  obtain ⟨p, l, e, R, s, m, args, below, meth, c, D, ca, b0, ad0, n0, tg⟩ := x
  obtain ⟨hx, hb, hml, hown, hts, hret, hlk, htab, hKs, hOs, hfl⟩ := hG
  intro ad H locs la cells slots h1 h2 h3 h4 h5 h6 h7 h8 h9 h10
  exact lv_iadd hx hb hd (k ad H locs la cells slots h1 h2 h3 h4 h5 h6 h7 h8 h9 h10)
theorem z_isub {a b : Int32} (hG : zG x cc nL own ret)  (hd : decode cc pc = .ok (.isub, 1))
    (k : zK x F (pc + 1) ls (.int (a - b) :: st) dl σ A B) : zK x F pc ls (.int b :: .int a :: st) dl σ A B := by
  obtain ⟨p, l, e, R, s, m, args, below, meth, c, D, ca, b0, ad0, n0, tg⟩ := x
  obtain ⟨hx, hb, hml, hown, hts, hret, hlk, htab, hKs, hOs, hfl⟩ := hG
  intro ad H locs la cells slots h1 h2 h3 h4 h5 h6 h7 h8 h9 h10
  exact lv_isub hx hb hd (k ad H locs la cells slots h1 h2 h3 h4 h5 h6 h7 h8 h9 h10)
theorem z_imul {a b : Int32} (hG : zG x cc nL own ret)  (hd : decode cc pc = .ok (.imul, 1))
    (k : zK x F (pc + 1) ls (.int (a * b) :: st) dl σ A B) : zK x F pc ls (.int b :: .int a :: st) dl σ A B := by
  obtain ⟨p, l, e, R, s, m, args, below, meth, c, D, ca, b0, ad0, n0, tg⟩ := x
  obtain ⟨hx, hb, hml, hown, hts, hret, hlk, htab, hKs, hOs, hfl⟩ := hG
  intro ad H locs la cells slots h1 h2 h3 h4 h5 h6 h7 h8 h9 h10
  exact lv_imul hx hb hd (k ad H locs la cells slots h1 h2 h3 h4 h5 h6 h7 h8 h9 h10)
theorem z_iand {a b : Int32} (hG : zG x cc nL own ret)  (hd : decode cc pc = .ok (.iand, 1))
    (k : zK x F (pc + 1) ls (.int (a &&& b) :: st) dl σ A B) : zK x F pc ls (.int b :: .int a :: st) dl σ A B := by
  obtain ⟨p, l, e, R, s, m, args, below, meth, c, D, ca, b0, ad0, n0, tg⟩ := x
  obtain ⟨hx, hb, hml, hown, hts, hret, hlk, htab, hKs, hOs, hfl⟩ := hG
  intro ad H locs la cells slots h1 h2 h3 h4 h5 h6 h7 h8 h9 h10
  exact lv_iand hx hb hd (k ad H locs la cells slots h1 h2 h3 h4 h5 h6 h7 h8 h9 h10)
theorem z_ior {a b : Int32} (hG : zG x cc nL own ret)  (hd : decode cc pc = .ok (.ior, 1))
    (k : zK x F (pc + 1) ls (.int (a ||| b) :: st) dl σ A B) : zK x F pc ls (.int b :: .int a :: st) dl σ A B := by
  obtain ⟨p, l, e, R, s, m, args, below, meth, c, D, ca, b0, ad0, n0, tg⟩ := x
  obtain ⟨hx, hb, hml, hown, hts, hret, hlk, htab, hKs, hOs, hfl⟩ := hG
  intro ad H locs la cells slots h1 h2 h3 h4 h5 h6 h7 h8 h9 h10
  exact lv_ior hx hb hd (k ad H locs la cells slots h1 h2 h3 h4 h5 h6 h7 h8 h9 h10)
theorem z_ixor {a b : Int32} (hG : zG x cc nL own ret)  (hd : decode cc pc = .ok (.ixor, 1))
    (k : zK x F (pc + 1) ls (.int (a ^^^ b) :: st) dl σ A B) : zK x F pc ls (.int b :: .int a :: st) dl σ A B := by
  obtain ⟨p, l, e, R, s, m, args, below, meth, c, D, ca, b0, ad0, n0, tg⟩ := x
  obtain ⟨hx, hb, hml, hown, hts, hret, hlk, htab, hKs, hOs, hfl⟩ := hG
  intro ad H locs la cells slots h1 h2 h3 h4 h5 h6 h7 h8 h9 h10
  exact lv_ixor hx hb hd (k ad H locs la cells slots h1 h2 h3 h4 h5 h6 h7 h8 h9 h10)
theorem z_ishl {a b : Int32} (hG : zG x cc nL own ret)  (hd : decode cc pc = .ok (.ishl, 1))
    (k : zK x F (pc + 1) ls (.int (a <<< (b &&& 31)) :: st) dl σ A B) : zK x F pc ls (.int b :: .int a :: st) dl σ A B := by
  obtain ⟨p, l, e, R, s, m, args, below, meth, c, D, ca, b0, ad0, n0, tg⟩ := x
  obtain ⟨hx, hb, hml, hown, hts, hret, hlk, htab, hKs, hOs, hfl⟩ := hG
  intro ad H locs la cells slots h1 h2 h3 h4 h5 h6 h7 h8 h9 h10
  exact lv_ishl hx hb hd (k ad H locs la cells slots h1 h2 h3 h4 h5 h6 h7 h8 h9 h10)
theorem z_ishr {a b : Int32} (hG : zG x cc nL own ret)  (hd : decode cc pc = .ok (.ishr, 1))
    (k : zK x F (pc + 1) ls (.int (a >>> (b &&& 31)) :: st) dl σ A B) : zK x F pc ls (.int b :: .int a :: st) dl σ A B := by
  obtain ⟨p, l, e, R, s, m, args, below, meth, c, D, ca, b0, ad0, n0, tg⟩ := x
  obtain ⟨hx, hb, hml, hown, hts, hret, hlk, htab, hKs, hOs, hfl⟩ := hG
  intro ad H locs la cells slots h1 h2 h3 h4 h5 h6 h7 h8 h9 h10
  exact lv_ishr hx hb hd (k ad H locs la cells slots h1 h2 h3 h4 h5 h6 h7 h8 h9 h10)
theorem z_iushr {a b : Int32} (hG : zG x cc nL own ret)  (hd : decode cc pc = .ok (.iushr, 1))
    (k : zK x F (pc + 1) ls (.int ((a.toUInt32 >>> (b.toUInt32 &&& Int32.toUInt32 31)).toInt32) :: st) dl σ A B) : zK x F pc ls (.int b :: .int a :: st) dl σ A B := by
  obtain ⟨p, l, e, R, s, m, args, below, meth, c, D, ca, b0, ad0, n0, tg⟩ := x
  obtain ⟨hx, hb, hml, hown, hts, hret, hlk, htab, hKs, hOs, hfl⟩ := hG
  intro ad H locs la cells slots h1 h2 h3 h4 h5 h6 h7 h8 h9 h10
  exact lv_iushr hx hb hd rfl (k ad H locs la cells slots h1 h2 h3 h4 h5 h6 h7 h8 h9 h10)
theorem z_idiv {a b : Int32} (hG : zG x cc nL own ret) (hne : ¬ b = 0) (hd : decode cc pc = .ok (.idiv, 1))
    (k : zK x F (pc + 1) ls (.int (a / b) :: st) dl σ A B) : zK x F pc ls (.int b :: .int a :: st) dl σ A B := by
  obtain ⟨p, l, e, R, s, m, args, below, meth, c, D, ca, b0, ad0, n0, tg⟩ := x
  obtain ⟨hx, hb, hml, hown, hts, hret, hlk, htab, hKs, hOs, hfl⟩ := hG
  intro ad H locs la cells slots h1 h2 h3 h4 h5 h6 h7 h8 h9 h10
  exact lv_idiv hx hb hd hne (k ad H locs la cells slots h1 h2 h3 h4 h5 h6 h7 h8 h9 h10)
theorem z_irem {a b : Int32} (hG : zG x cc nL own ret) (hne : ¬ b = 0) (hd : decode cc pc = .ok (.irem, 1))
    (k : zK x F (pc + 1) ls (.int (a - a / b * b) :: st) dl σ A B) : zK x F pc ls (.int b :: .int a :: st) dl σ A B := by
  obtain ⟨p, l, e, R, s, m, args, below, meth, c, D, ca, b0, ad0, n0, tg⟩ := x
  obtain ⟨hx, hb, hml, hown, hts, hret, hlk, htab, hKs, hOs, hfl⟩ := hG
  intro ad H locs la cells slots h1 h2 h3 h4 h5 h6 h7 h8 h9 h10
  exact lv_irem hx hb hd hne (k ad H locs la cells slots h1 h2 h3 h4 h5 h6 h7 h8 h9 h10)
theorem z_ladd {a b : Int64} (hG : zG x cc nL own ret)  (hd : decode cc pc = .ok (.ladd, 1))
    (k : zK x F (pc + 1) ls (.long (a + b) :: st) dl σ A B) : zK x F pc ls (.long b :: .long a :: st) dl σ A B := by
  obtain ⟨p, l, e, R, s, m, args, below, meth, c, D, ca, b0, ad0, n0, tg⟩ := x
  obtain ⟨hx, hb, hml, hown, hts, hret, hlk, htab, hKs, hOs, hfl⟩ := hG
  intro ad H locs la cells slots h1 h2 h3 h4 h5 h6 h7 h8 h9 h10
  exact lv_ladd hx hb hd (k ad H locs la cells slots h1 h2 h3 h4 h5 h6 h7 h8 h9 h10)
theorem z_lsub {a b : Int64} (hG : zG x cc nL own ret)  (hd : decode cc pc = .ok (.lsub, 1))
    (k : zK x F (pc + 1) ls (.long (a - b) :: st) dl σ A B) : zK x F pc ls (.long b :: .long a :: st) dl σ A B := by
  obtain ⟨p, l, e, R, s, m, args, below, meth, c, D, ca, b0, ad0, n0, tg⟩ := x
  obtain ⟨hx, hb, hml, hown, hts, hret, hlk, htab, hKs, hOs, hfl⟩ := hG
  intro ad H locs la cells slots h1 h2 h3 h4 h5 h6 h7 h8 h9 h10
  exact lv_lsub hx hb hd (k ad H locs la cells slots h1 h2 h3 h4 h5 h6 h7 h8 h9 h10)
theorem z_lmul {a b : Int64} (hG : zG x cc nL own ret)  (hd : decode cc pc = .ok (.lmul, 1))
    (k : zK x F (pc + 1) ls (.long (a * b) :: st) dl σ A B) : zK x F pc ls (.long b :: .long a :: st) dl σ A B := by
  obtain ⟨p, l, e, R, s, m, args, below, meth, c, D, ca, b0, ad0, n0, tg⟩ := x
  obtain ⟨hx, hb, hml, hown, hts, hret, hlk, htab, hKs, hOs, hfl⟩ := hG
  intro ad H locs la cells slots h1 h2 h3 h4 h5 h6 h7 h8 h9 h10
  exact lv_lmul hx hb hd (k ad H locs la cells slots h1 h2 h3 h4 h5 h6 h7 h8 h9 h10)
theorem z_land {a b : Int64} (hG : zG x cc nL own ret)  (hd : decode cc pc = .ok (.land, 1))
    (k : zK x F (pc + 1) ls (.long (a &&& b) :: st) dl σ A B) : zK x F pc ls (.long b :: .long a :: st) dl σ A B := by
  obtain ⟨p, l, e, R, s, m, args, below, meth, c, D, ca, b0, ad0, n0, tg⟩ := x
  obtain ⟨hx, hb, hml, hown, hts, hret, hlk, htab, hKs, hOs, hfl⟩ := hG
  intro ad H locs la cells slots h1 h2 h3 h4 h5 h6 h7 h8 h9 h10
  exact lv_land hx hb hd (k ad H locs la cells slots h1 h2 h3 h4 h5 h6 h7 h8 h9 h10)
theorem z_lor {a b : Int64} (hG : zG x cc nL own ret)  (hd : decode cc pc = .ok (.lor, 1))
    (k : zK x F (pc + 1) ls (.long (a ||| b) :: st) dl σ A B) : zK x F pc ls (.long b :: .long a :: st) dl σ A B := by
  obtain ⟨p, l, e, R, s, m, args, below, meth, c, D, ca, b0, ad0, n0, tg⟩ := x
  obtain ⟨hx, hb, hml, hown, hts, hret, hlk, htab, hKs, hOs, hfl⟩ := hG
  intro ad H locs la cells slots h1 h2 h3 h4 h5 h6 h7 h8 h9 h10
  exact lv_lor hx hb hd (k ad H locs la cells slots h1 h2 h3 h4 h5 h6 h7 h8 h9 h10)
theorem z_lxor {a b : Int64} (hG : zG x cc nL own ret)  (hd : decode cc pc = .ok (.lxor, 1))
    (k : zK x F (pc + 1) ls (.long (a ^^^ b) :: st) dl σ A B) : zK x F pc ls (.long b :: .long a :: st) dl σ A B := by
  obtain ⟨p, l, e, R, s, m, args, below, meth, c, D, ca, b0, ad0, n0, tg⟩ := x
  obtain ⟨hx, hb, hml, hown, hts, hret, hlk, htab, hKs, hOs, hfl⟩ := hG
  intro ad H locs la cells slots h1 h2 h3 h4 h5 h6 h7 h8 h9 h10
  exact lv_lxor hx hb hd (k ad H locs la cells slots h1 h2 h3 h4 h5 h6 h7 h8 h9 h10)
theorem z_ldiv {a b : Int64} (hG : zG x cc nL own ret) (hne : ¬ b = 0) (hd : decode cc pc = .ok (.ldiv, 1))
    (k : zK x F (pc + 1) ls (.long (a / b) :: st) dl σ A B) : zK x F pc ls (.long b :: .long a :: st) dl σ A B := by
  obtain ⟨p, l, e, R, s, m, args, below, meth, c, D, ca, b0, ad0, n0, tg⟩ := x
  obtain ⟨hx, hb, hml, hown, hts, hret, hlk, htab, hKs, hOs, hfl⟩ := hG
  intro ad H locs la cells slots h1 h2 h3 h4 h5 h6 h7 h8 h9 h10
  exact lv_ldiv hx hb hd hne (k ad H locs la cells slots h1 h2 h3 h4 h5 h6 h7 h8 h9 h10)
theorem z_lrem {a b : Int64} (hG : zG x cc nL own ret) (hne : ¬ b = 0) (hd : decode cc pc = .ok (.lrem, 1))
    (k : zK x F (pc + 1) ls (.long (a - a / b * b) :: st) dl σ A B) : zK x F pc ls (.long b :: .long a :: st) dl σ A B := by
  obtain ⟨p, l, e, R, s, m, args, below, meth, c, D, ca, b0, ad0, n0, tg⟩ := x
  obtain ⟨hx, hb, hml, hown, hts, hret, hlk, htab, hKs, hOs, hfl⟩ := hG
  intro ad H locs la cells slots h1 h2 h3 h4 h5 h6 h7 h8 h9 h10
  exact lv_lrem hx hb hd hne (k ad H locs la cells slots h1 h2 h3 h4 h5 h6 h7 h8 h9 h10)
theorem z_lushr {a : Int64} {b : Int32} (hG : zG x cc nL own ret)  (hd : decode cc pc = .ok (.lushr, 1))
    (k : zK x F (pc + 1) ls (.long ((a.toUInt64 >>> (b.toInt64.toUInt64 &&& Int64.toUInt64 63)).toInt64) :: st) dl σ A B) : zK x F pc ls (.int b :: .long a :: st) dl σ A B := by
  obtain ⟨p, l, e, R, s, m, args, below, meth, c, D, ca, b0, ad0, n0, tg⟩ := x
  obtain ⟨hx, hb, hml, hown, hts, hret, hlk, htab, hKs, hOs, hfl⟩ := hG
  intro ad H locs la cells slots h1 h2 h3 h4 h5 h6 h7 h8 h9 h10
  exact lv_lushr hx hb hd rfl (k ad H locs la cells slots h1 h2 h3 h4 h5 h6 h7 h8 h9 h10)
theorem z_lshl {a : Int64} {b : Int32} (hG : zG x cc nL own ret)  (hd : decode cc pc = .ok (.lshl, 1))
    (k : zK x F (pc + 1) ls (.long (a <<< (b.toInt64 &&& 63)) :: st) dl σ A B) : zK x F pc ls (.int b :: .long a :: st) dl σ A B := by
  obtain ⟨p, l, e, R, s, m, args, below, meth, c, D, ca, b0, ad0, n0, tg⟩ := x
  obtain ⟨hx, hb, hml, hown, hts, hret, hlk, htab, hKs, hOs, hfl⟩ := hG
  intro ad H locs la cells slots h1 h2 h3 h4 h5 h6 h7 h8 h9 h10
  exact lv_lshl hx hb hd rfl (k ad H locs la cells slots h1 h2 h3 h4 h5 h6 h7 h8 h9 h10)
theorem z_i2l {a : Int32} (hG : zG x cc nL own ret)  (hd : decode cc pc = .ok (.i2l, 1))
    (k : zK x F (pc + 1) ls (.long a.toInt64 :: st) dl σ A B) : zK x F pc ls (.int a :: st) dl σ A B := by
  obtain ⟨p, l, e, R, s, m, args, below, meth, c, D, ca, b0, ad0, n0, tg⟩ := x
  obtain ⟨hx, hb, hml, hown, hts, hret, hlk, htab, hKs, hOs, hfl⟩ := hG
  intro ad H locs la cells slots h1 h2 h3 h4 h5 h6 h7 h8 h9 h10
  exact lv_i2l hx hb hd rfl (k ad H locs la cells slots h1 h2 h3 h4 h5 h6 h7 h8 h9 h10)
theorem z_l2i {a : Int64} (hG : zG x cc nL own ret)  (hd : decode cc pc = .ok (.l2i, 1))
    (k : zK x F (pc + 1) ls (.int a.toInt32 :: st) dl σ A B) : zK x F pc ls (.long a :: st) dl σ A B := by
  obtain ⟨p, l, e, R, s, m, args, below, meth, c, D, ca, b0, ad0, n0, tg⟩ := x
  obtain ⟨hx, hb, hml, hown, hts, hret, hlk, htab, hKs, hOs, hfl⟩ := hG
  intro ad H locs la cells slots h1 h2 h3 h4 h5 h6 h7 h8 h9 h10
  exact lv_l2i hx hb hd rfl (k ad H locs la cells slots h1 h2 h3 h4 h5 h6 h7 h8 h9 h10)
theorem z_i2b {a : Int32} (hG : zG x cc nL own ret)  (hd : decode cc pc = .ok (.i2b, 1))
    (k : zK x F (pc + 1) ls (.int a.toInt8.toInt32 :: st) dl σ A B) : zK x F pc ls (.int a :: st) dl σ A B := by
  obtain ⟨p, l, e, R, s, m, args, below, meth, c, D, ca, b0, ad0, n0, tg⟩ := x
  obtain ⟨hx, hb, hml, hown, hts, hret, hlk, htab, hKs, hOs, hfl⟩ := hG
  intro ad H locs la cells slots h1 h2 h3 h4 h5 h6 h7 h8 h9 h10
  exact lv_i2b hx hb hd rfl (k ad H locs la cells slots h1 h2 h3 h4 h5 h6 h7 h8 h9 h10)
theorem z_i2c {a : Int32} (hG : zG x cc nL own ret)  (hd : decode cc pc = .ok (.i2c, 1))
    (k : zK x F (pc + 1) ls (.int (a.toUInt32 % 65536).toInt32 :: st) dl σ A B) : zK x F pc ls (.int a :: st) dl σ A B := by
  obtain ⟨p, l, e, R, s, m, args, below, meth, c, D, ca, b0, ad0, n0, tg⟩ := x
  obtain ⟨hx, hb, hml, hown, hts, hret, hlk, htab, hKs, hOs, hfl⟩ := hG
  intro ad H locs la cells slots h1 h2 h3 h4 h5 h6 h7 h8 h9 h10
  exact lv_i2c hx hb hd rfl (k ad H locs la cells slots h1 h2 h3 h4 h5 h6 h7 h8 h9 h10)
theorem z_ineg {a : Int32} (hG : zG x cc nL own ret)  (hd : decode cc pc = .ok (.ineg, 1))
    (k : zK x F (pc + 1) ls (.int (-a) :: st) dl σ A B) : zK x F pc ls (.int a :: st) dl σ A B := by
  obtain ⟨p, l, e, R, s, m, args, below, meth, c, D, ca, b0, ad0, n0, tg⟩ := x
  obtain ⟨hx, hb, hml, hown, hts, hret, hlk, htab, hKs, hOs, hfl⟩ := hG
  intro ad H locs la cells slots h1 h2 h3 h4 h5 h6 h7 h8 h9 h10
  exact lv_ineg hx hb hd (k ad H locs la cells slots h1 h2 h3 h4 h5 h6 h7 h8 h9 h10)
theorem z_dup {v : Value} (hG : zG x cc nL own ret) (hv : v.category = 1) (hd : decode cc pc = .ok (.dup, 1))
    (k : zK x F (pc + 1) ls (v :: v :: st) dl σ A B) : zK x F pc ls (v :: st) dl σ A B := by
  obtain ⟨p, l, e, R, s, m, args, below, meth, c, D, ca, b0, ad0, n0, tg⟩ := x
  obtain ⟨hx, hb, hml, hown, hts, hret, hlk, htab, hKs, hOs, hfl⟩ := hG
  intro ad H locs la cells slots h1 h2 h3 h4 h5 h6 h7 h8 h9 h10
  exact lv_dup hx hb hd (by rw [zr_cat]; exact hv) (k ad H locs la cells slots h1 h2 h3 h4 h5 h6 h7 h8 h9 h10)
theorem z_pop {v : Value} (hG : zG x cc nL own ret) (hv : v.category = 1) (hd : decode cc pc = .ok (.pop, 1))
    (k : zK x F (pc + 1) ls (st) dl σ A B) : zK x F pc ls (v :: st) dl σ A B := by
  obtain ⟨p, l, e, R, s, m, args, below, meth, c, D, ca, b0, ad0, n0, tg⟩ := x
  obtain ⟨hx, hb, hml, hown, hts, hret, hlk, htab, hKs, hOs, hfl⟩ := hG
  intro ad H locs la cells slots h1 h2 h3 h4 h5 h6 h7 h8 h9 h10
  exact lv_pop hx hb hd (by rw [zr_cat]; exact hv) (k ad H locs la cells slots h1 h2 h3 h4 h5 h6 h7 h8 h9 h10)
theorem z_dup_x1 {v w : Value} (hG : zG x cc nL own ret) (hv : v.category = 1) (hw : w.category = 1) (hd : decode cc pc = .ok (.dup_x1, 1))
    (k : zK x F (pc + 1) ls (v :: w :: v :: st) dl σ A B) : zK x F pc ls (v :: w :: st) dl σ A B := by
  obtain ⟨p, l, e, R, s, m, args, below, meth, c, D, ca, b0, ad0, n0, tg⟩ := x
  obtain ⟨hx, hb, hml, hown, hts, hret, hlk, htab, hKs, hOs, hfl⟩ := hG
  intro ad H locs la cells slots h1 h2 h3 h4 h5 h6 h7 h8 h9 h10
  exact lv_dup_x1 hx hb hd (by rw [zr_cat]; exact hv) (by rw [zr_cat]; exact hw) (k ad H locs la cells slots h1 h2 h3 h4 h5 h6 h7 h8 h9 h10)
theorem z_dup2 {v w : Value} (hG : zG x cc nL own ret) (hv : v.category = 1) (hw : w.category = 1) (hd : decode cc pc = .ok (.dup2, 1))
    (k : zK x F (pc + 1) ls (v :: w :: v :: w :: st) dl σ A B) : zK x F pc ls (v :: w :: st) dl σ A B := by
  obtain ⟨p, l, e, R, s, m, args, below, meth, c, D, ca, b0, ad0, n0, tg⟩ := x
  obtain ⟨hx, hb, hml, hown, hts, hret, hlk, htab, hKs, hOs, hfl⟩ := hG
  intro ad H locs la cells slots h1 h2 h3 h4 h5 h6 h7 h8 h9 h10
  exact lv_dup2_11 hx hb hd (by rw [zr_cat]; exact hv) (by rw [zr_cat]; exact hw) (k ad H locs la cells slots h1 h2 h3 h4 h5 h6 h7 h8 h9 h10)
theorem z_lcmp {a b : Int64} (hG : zG x cc nL own ret)  (hd : decode cc pc = .ok (.lcmp, 1))
    (k : zK x F (pc + 1) ls (.int (lg_cmp a b) :: st) dl σ A B) : zK x F pc ls (.long b :: .long a :: st) dl σ A B := by
  obtain ⟨p, l, e, R, s, m, args, below, meth, c, D, ca, b0, ad0, n0, tg⟩ := x
  obtain ⟨hx, hb, hml, hown, hts, hret, hlk, htab, hKs, hOs, hfl⟩ := hG
  intro ad H locs la cells slots h1 h2 h3 h4 h5 h6 h7 h8 h9 h10
  exact W.lcmp hx hb hd (k ad H locs la cells slots h1 h2 h3 h4 h5 h6 h7 h8 h9 h10)
theorem z_iload_n {j : Fin 4} {i : Nat} {v : Int32} (hG : zG x cc nL own ret) (k : Nat) (hk : ls[k]? = some (i, .int v)) (hi : (j : Nat) = i) (hd : decode cc pc = .ok (.iload_n j, 1))
    (kk : zK x F (pc + 1) ls (.int v :: st) dl σ A B) : zK x F pc ls st dl σ A B := by
  obtain ⟨p, l, e, R, s, m, args, below, meth, c, D, ca, b0, ad0, n0, tg⟩ := x
  obtain ⟨hx, hb, hml, hown, hts, hret, hlk, htab, hKs, hOs, hfl⟩ := hG
  intro ad H locs la cells slots h1 h2 h3 h4 h5 h6 h7 h8 h9 h10
  exact lv_iload_n hx hb hd hi (lv_at h6 k (zrl_at hk)) (kk ad H locs la cells slots h1 h2 h3 h4 h5 h6 h7 h8 h9 h10)
theorem z_iload {i : Nat} {v : Int32} (hG : zG x cc nL own ret) (k : Nat) (hk : ls[k]? = some (i, .int v)) (hd : decode cc pc = .ok (.iload i, 2))
    (kk : zK x F (pc + 2) ls (.int v :: st) dl σ A B) : zK x F pc ls st dl σ A B := by
  obtain ⟨p, l, e, R, s, m, args, below, meth, c, D, ca, b0, ad0, n0, tg⟩ := x
  obtain ⟨hx, hb, hml, hown, hts, hret, hlk, htab, hKs, hOs, hfl⟩ := hG
  intro ad H locs la cells slots h1 h2 h3 h4 h5 h6 h7 h8 h9 h10
  exact lv_iload hx hb hd (lv_at h6 k (zrl_at hk)) (kk ad H locs la cells slots h1 h2 h3 h4 h5 h6 h7 h8 h9 h10)
theorem z_istore_n {j : Fin 4} {i : Nat} {v : Int32} {ls' : List (Nat × Value)} (hG : zG x cc nL own ret) (ps : List Nat) (hi : (j : Nat) = i) (hn : i < nL) (hl : lv_pick ((i, .int v) :: ls.filter (fun q => !(q.1 == i) && !(q.1 + 1 == i && q.2.category == 2))) ps = ls') (hd : decode cc pc = .ok (.istore_n j, 1))
    (kk : zK x F (pc + 1) ls' st dl σ A B) : zK x F pc ls (.int v :: st) dl σ A B := by
  obtain ⟨p, l, e, R, s, m, args, below, meth, c, D, ca, b0, ad0, n0, tg⟩ := x
  obtain ⟨hx, hb, hml, hown, hts, hret, hlk, htab, hKs, hOs, hfl⟩ := hG
  intro ad H locs la cells slots h1 h2 h3 h4 h5 h6 h7 h8 h9 h10
  refine lv_istore_n hx hb hd hi h6 (by rw [hml]; exact hn) rfl (fun la' h6' => ?_)
  have h6'' : lv_has la' c.maxLocals (zrl ad ((i, .int v) :: ls.filter (fun q => !(q.1 == i) && !(q.1 + 1 == i && q.2.category == 2)))) := by
    rw [zrl_filter (g := fun q => !(q.1 == i) && !(q.1 + 1 == i && q.2.category == 2)) (fun q => by simp [zr_cat])] at h6'
    exact h6'
  exact kk ad H locs la' cells slots h1 h2 h3 h4 h5 (zrl_pick h6'' hl) h7 h8 h9 h10
theorem z_istore {i : Nat} {v : Int32} {ls' : List (Nat × Value)} (hG : zG x cc nL own ret) (ps : List Nat)  (hn : i < nL) (hl : lv_pick ((i, .int v) :: ls.filter (fun q => !(q.1 == i) && !(q.1 + 1 == i && q.2.category == 2))) ps = ls') (hd : decode cc pc = .ok (.istore i, 2))
    (kk : zK x F (pc + 2) ls' st dl σ A B) : zK x F pc ls (.int v :: st) dl σ A B := by
  obtain ⟨p, l, e, R, s, m, args, below, meth, c, D, ca, b0, ad0, n0, tg⟩ := x
  obtain ⟨hx, hb, hml, hown, hts, hret, hlk, htab, hKs, hOs, hfl⟩ := hG
  intro ad H locs la cells slots h1 h2 h3 h4 h5 h6 h7 h8 h9 h10
  refine lv_istore hx hb hd h6 (by rw [hml]; exact hn) rfl (fun la' h6' => ?_)
  have h6'' : lv_has la' c.maxLocals (zrl ad ((i, .int v) :: ls.filter (fun q => !(q.1 == i) && !(q.1 + 1 == i && q.2.category == 2)))) := by
    rw [zrl_filter (g := fun q => !(q.1 == i) && !(q.1 + 1 == i && q.2.category == 2)) (fun q => by simp [zr_cat])] at h6'
    exact h6'
  exact kk ad H locs la' cells slots h1 h2 h3 h4 h5 (zrl_pick h6'' hl) h7 h8 h9 h10
theorem z_lload_n {j : Fin 4} {i : Nat} {v : Int64} (hG : zG x cc nL own ret) (k : Nat) (hk : ls[k]? = some (i, .long v)) (hi : (j : Nat) = i) (hd : decode cc pc = .ok (.lload_n j, 1))
    (kk : zK x F (pc + 1) ls (.long v :: st) dl σ A B) : zK x F pc ls st dl σ A B := by
  obtain ⟨p, l, e, R, s, m, args, below, meth, c, D, ca, b0, ad0, n0, tg⟩ := x
  obtain ⟨hx, hb, hml, hown, hts, hret, hlk, htab, hKs, hOs, hfl⟩ := hG
  intro ad H locs la cells slots h1 h2 h3 h4 h5 h6 h7 h8 h9 h10
  exact lv_lload_n hx hb hd hi (lv_at h6 k (zrl_at hk)) (kk ad H locs la cells slots h1 h2 h3 h4 h5 h6 h7 h8 h9 h10)
theorem z_lload {i : Nat} {v : Int64} (hG : zG x cc nL own ret) (k : Nat) (hk : ls[k]? = some (i, .long v)) (hd : decode cc pc = .ok (.lload i, 2))
    (kk : zK x F (pc + 2) ls (.long v :: st) dl σ A B) : zK x F pc ls st dl σ A B := by
  obtain ⟨p, l, e, R, s, m, args, below, meth, c, D, ca, b0, ad0, n0, tg⟩ := x
  obtain ⟨hx, hb, hml, hown, hts, hret, hlk, htab, hKs, hOs, hfl⟩ := hG
  intro ad H locs la cells slots h1 h2 h3 h4 h5 h6 h7 h8 h9 h10
  exact lv_lload hx hb hd (lv_at h6 k (zrl_at hk)) (kk ad H locs la cells slots h1 h2 h3 h4 h5 h6 h7 h8 h9 h10)
theorem z_lstore_n {j : Fin 4} {i : Nat} {v : Int64} {ls' : List (Nat × Value)} (hG : zG x cc nL own ret) (ps : List Nat) (hi : (j : Nat) = i) (hn : i + 1 < nL) (hl : lv_pick ((i, .long v) :: ls.filter (fun q => !(q.1 == i) && (!(q.1 == i + 1) && !(q.1 + 1 == i && q.2.category == 2)))) ps = ls') (hd : decode cc pc = .ok (.lstore_n j, 1))
    (kk : zK x F (pc + 1) ls' st dl σ A B) : zK x F pc ls (.long v :: st) dl σ A B := by
  obtain ⟨p, l, e, R, s, m, args, below, meth, c, D, ca, b0, ad0, n0, tg⟩ := x
  obtain ⟨hx, hb, hml, hown, hts, hret, hlk, htab, hKs, hOs, hfl⟩ := hG
  intro ad H locs la cells slots h1 h2 h3 h4 h5 h6 h7 h8 h9 h10
  refine lv_lstore_n hx hb hd hi h6 (by rw [hml]; exact hn) rfl (fun la' h6' => ?_)
  have h6'' : lv_has la' c.maxLocals (zrl ad ((i, .long v) :: ls.filter (fun q => !(q.1 == i) && (!(q.1 == i + 1) && !(q.1 + 1 == i && q.2.category == 2))))) := by
    rw [zrl_filter (g := fun q => !(q.1 == i) && (!(q.1 == i + 1) && !(q.1 + 1 == i && q.2.category == 2))) (fun q => by simp [zr_cat])] at h6'
    exact h6'
  exact kk ad H locs la' cells slots h1 h2 h3 h4 h5 (zrl_pick h6'' hl) h7 h8 h9 h10
theorem z_lstore {i : Nat} {v : Int64} {ls' : List (Nat × Value)} (hG : zG x cc nL own ret) (ps : List Nat)  (hn : i + 1 < nL) (hl : lv_pick ((i, .long v) :: ls.filter (fun q => !(q.1 == i) && (!(q.1 == i + 1) && !(q.1 + 1 == i && q.2.category == 2)))) ps = ls') (hd : decode cc pc = .ok (.lstore i, 2))
    (kk : zK x F (pc + 2) ls' st dl σ A B) : zK x F pc ls (.long v :: st) dl σ A B := by
  obtain ⟨p, l, e, R, s, m, args, below, meth, c, D, ca, b0, ad0, n0, tg⟩ := x
  obtain ⟨hx, hb, hml, hown, hts, hret, hlk, htab, hKs, hOs, hfl⟩ := hG
  intro ad H locs la cells slots h1 h2 h3 h4 h5 h6 h7 h8 h9 h10
  refine lv_lstore hx hb hd h6 (by rw [hml]; exact hn) rfl (fun la' h6' => ?_)
  have h6'' : lv_has la' c.maxLocals (zrl ad ((i, .long v) :: ls.filter (fun q => !(q.1 == i) && (!(q.1 == i + 1) && !(q.1 + 1 == i && q.2.category == 2))))) := by
    rw [zrl_filter (g := fun q => !(q.1 == i) && (!(q.1 == i + 1) && !(q.1 + 1 == i && q.2.category == 2))) (fun q => by simp [zr_cat])] at h6'
    exact h6'
  exact kk ad H locs la' cells slots h1 h2 h3 h4 h5 (zrl_pick h6'' hl) h7 h8 h9 h10
theorem z_aload_n {j : Fin 4} {i : Nat} {v : Nat} (hG : zG x cc nL own ret) (k : Nat) (hk : ls[k]? = some (i, .ref v)) (hi : (j : Nat) = i) (hd : decode cc pc = .ok (.aload_n j, 1))
    (kk : zK x F (pc + 1) ls (.ref v :: st) dl σ A B) : zK x F pc ls st dl σ A B := by
  obtain ⟨p, l, e, R, s, m, args, below, meth, c, D, ca, b0, ad0, n0, tg⟩ := x
  obtain ⟨hx, hb, hml, hown, hts, hret, hlk, htab, hKs, hOs, hfl⟩ := hG
  intro ad H locs la cells slots h1 h2 h3 h4 h5 h6 h7 h8 h9 h10
  exact lv_aload_n hx hb hd hi (lv_at h6 k (zrl_at hk)) (kk ad H locs la cells slots h1 h2 h3 h4 h5 h6 h7 h8 h9 h10)
theorem z_aload {i : Nat} {v : Nat} (hG : zG x cc nL own ret) (k : Nat) (hk : ls[k]? = some (i, .ref v)) (hd : decode cc pc = .ok (.aload i, 2))
    (kk : zK x F (pc + 2) ls (.ref v :: st) dl σ A B) : zK x F pc ls st dl σ A B := by
  obtain ⟨p, l, e, R, s, m, args, below, meth, c, D, ca, b0, ad0, n0, tg⟩ := x
  obtain ⟨hx, hb, hml, hown, hts, hret, hlk, htab, hKs, hOs, hfl⟩ := hG
  intro ad H locs la cells slots h1 h2 h3 h4 h5 h6 h7 h8 h9 h10
  exact lv_aload hx hb hd (lv_at h6 k (zrl_at hk)) (kk ad H locs la cells slots h1 h2 h3 h4 h5 h6 h7 h8 h9 h10)
theorem z_astore_n {j : Fin 4} {i : Nat} {v : Nat} {ls' : List (Nat × Value)} (hG : zG x cc nL own ret) (ps : List Nat) (hi : (j : Nat) = i) (hn : i < nL) (hl : lv_pick ((i, .ref v) :: ls.filter (fun q => !(q.1 == i) && !(q.1 + 1 == i && q.2.category == 2))) ps = ls') (hd : decode cc pc = .ok (.astore_n j, 1))
    (kk : zK x F (pc + 1) ls' st dl σ A B) : zK x F pc ls (.ref v :: st) dl σ A B := by
  obtain ⟨p, l, e, R, s, m, args, below, meth, c, D, ca, b0, ad0, n0, tg⟩ := x
  obtain ⟨hx, hb, hml, hown, hts, hret, hlk, htab, hKs, hOs, hfl⟩ := hG
  intro ad H locs la cells slots h1 h2 h3 h4 h5 h6 h7 h8 h9 h10
  refine lv_astore_n hx hb hd hi h6 (by rw [hml]; exact hn) rfl (fun la' h6' => ?_)
  have h6'' : lv_has la' c.maxLocals (zrl ad ((i, .ref v) :: ls.filter (fun q => !(q.1 == i) && !(q.1 + 1 == i && q.2.category == 2)))) := by
    rw [zrl_filter (g := fun q => !(q.1 == i) && !(q.1 + 1 == i && q.2.category == 2)) (fun q => by simp [zr_cat])] at h6'
    exact h6'
  exact kk ad H locs la' cells slots h1 h2 h3 h4 h5 (zrl_pick h6'' hl) h7 h8 h9 h10
theorem z_astore {i : Nat} {v : Nat} {ls' : List (Nat × Value)} (hG : zG x cc nL own ret) (ps : List Nat)  (hn : i < nL) (hl : lv_pick ((i, .ref v) :: ls.filter (fun q => !(q.1 == i) && !(q.1 + 1 == i && q.2.category == 2))) ps = ls') (hd : decode cc pc = .ok (.astore i, 2))
    (kk : zK x F (pc + 2) ls' st dl σ A B) : zK x F pc ls (.ref v :: st) dl σ A B := by
  obtain ⟨p, l, e, R, s, m, args, below, meth, c, D, ca, b0, ad0, n0, tg⟩ := x
  obtain ⟨hx, hb, hml, hown, hts, hret, hlk, htab, hKs, hOs, hfl⟩ := hG
  intro ad H locs la cells slots h1 h2 h3 h4 h5 h6 h7 h8 h9 h10
  refine lv_astore hx hb hd h6 (by rw [hml]; exact hn) rfl (fun la' h6' => ?_)
  have h6'' : lv_has la' c.maxLocals (zrl ad ((i, .ref v) :: ls.filter (fun q => !(q.1 == i) && !(q.1 + 1 == i && q.2.category == 2)))) := by
    rw [zrl_filter (g := fun q => !(q.1 == i) && !(q.1 + 1 == i && q.2.category == 2)) (fun q => by simp [zr_cat])] at h6'
    exact h6'
  exact kk ad H locs la' cells slots h1 h2 h3 h4 h5 (zrl_pick h6'' hl) h7 h8 h9 h10
theorem z_goto {off : Int} {tgt : Nat} (hG : zG x cc nL own ret) (hd : decode cc pc = .ok (.goto off, 3)) (ht : (pc : Int) + off = (tgt : Int)) (k : zK x F tgt ls st dl σ A B) : zK x F pc ls st dl σ A B := by
  obtain ⟨p, l, e, R, s, m, args, below, meth, c, D, ca, b0, ad0, n0, tg⟩ := x
  obtain ⟨hx, hb, hml, hown, hts, hret, hlk, htab, hKs, hOs, hfl⟩ := hG
  intro ad H locs la cells slots h1 h2 h3 h4 h5 h6 h7 h8 h9 h10
  exact lv_goto hx hb hd ht (k ad H locs la cells slots h1 h2 h3 h4 h5 h6 h7 h8 h9 h10)
theorem z_if_eq {a : Int32} {off : Int} {tgt : Nat} (hG : zG x cc nL own ret) (hd : decode cc pc = .ok (.ifCond .eq off, 3)) (ht : (pc : Int) + off = (tgt : Int)) (kt : a = 0 → zK x F tgt ls st dl σ A B) (kf : ¬ a = 0 → zK x F (pc + 3) ls st dl σ A B) : zK x F pc ls (.int a :: st) dl σ A B := by
  obtain ⟨p, l, e, R, s, m, args, below, meth, c, D, ca, b0, ad0, n0, tg⟩ := x
  obtain ⟨hx, hb, hml, hown, hts, hret, hlk, htab, hKs, hOs, hfl⟩ := hG
  intro ad H locs la cells slots h1 h2 h3 h4 h5 h6 h7 h8 h9 h10
  exact lv_if_eq hx hb hd ht (fun h => kt h ad H locs la cells slots h1 h2 h3 h4 h5 h6 h7 h8 h9 h10) (fun h => kf h ad H locs la cells slots h1 h2 h3 h4 h5 h6 h7 h8 h9 h10)
theorem z_if_ne {a : Int32} {off : Int} {tgt : Nat} (hG : zG x cc nL own ret) (hd : decode cc pc = .ok (.ifCond .ne off, 3)) (ht : (pc : Int) + off = (tgt : Int)) (kt : ¬ a = 0 → zK x F tgt ls st dl σ A B) (kf : a = 0 → zK x F (pc + 3) ls st dl σ A B) : zK x F pc ls (.int a :: st) dl σ A B := by
  obtain ⟨p, l, e, R, s, m, args, below, meth, c, D, ca, b0, ad0, n0, tg⟩ := x
  obtain ⟨hx, hb, hml, hown, hts, hret, hlk, htab, hKs, hOs, hfl⟩ := hG
  intro ad H locs la cells slots h1 h2 h3 h4 h5 h6 h7 h8 h9 h10
  exact lv_if_ne hx hb hd ht (fun h => kt h ad H locs la cells slots h1 h2 h3 h4 h5 h6 h7 h8 h9 h10) (fun h => kf h ad H locs la cells slots h1 h2 h3 h4 h5 h6 h7 h8 h9 h10)
theorem z_if_lt {a : Int32} {off : Int} {tgt : Nat} (hG : zG x cc nL own ret) (hd : decode cc pc = .ok (.ifCond .lt off, 3)) (ht : (pc : Int) + off = (tgt : Int)) (kt : a < 0 → zK x F tgt ls st dl σ A B) (kf : ¬ a < 0 → zK x F (pc + 3) ls st dl σ A B) : zK x F pc ls (.int a :: st) dl σ A B := by
  obtain ⟨p, l, e, R, s, m, args, below, meth, c, D, ca, b0, ad0, n0, tg⟩ := x
  obtain ⟨hx, hb, hml, hown, hts, hret, hlk, htab, hKs, hOs, hfl⟩ := hG
  intro ad H locs la cells slots h1 h2 h3 h4 h5 h6 h7 h8 h9 h10
  exact lv_if_lt hx hb hd ht (fun h => kt h ad H locs la cells slots h1 h2 h3 h4 h5 h6 h7 h8 h9 h10) (fun h => kf h ad H locs la cells slots h1 h2 h3 h4 h5 h6 h7 h8 h9 h10)
theorem z_if_ge {a : Int32} {off : Int} {tgt : Nat} (hG : zG x cc nL own ret) (hd : decode cc pc = .ok (.ifCond .ge off, 3)) (ht : (pc : Int) + off = (tgt : Int)) (kt : 0 ≤ a → zK x F tgt ls st dl σ A B) (kf : ¬ 0 ≤ a → zK x F (pc + 3) ls st dl σ A B) : zK x F pc ls (.int a :: st) dl σ A B := by
  obtain ⟨p, l, e, R, s, m, args, below, meth, c, D, ca, b0, ad0, n0, tg⟩ := x
  obtain ⟨hx, hb, hml, hown, hts, hret, hlk, htab, hKs, hOs, hfl⟩ := hG
  intro ad H locs la cells slots h1 h2 h3 h4 h5 h6 h7 h8 h9 h10
  exact lv_if_ge hx hb hd ht (fun h => kt h ad H locs la cells slots h1 h2 h3 h4 h5 h6 h7 h8 h9 h10) (fun h => kf h ad H locs la cells slots h1 h2 h3 h4 h5 h6 h7 h8 h9 h10)
theorem z_if_gt {a : Int32} {off : Int} {tgt : Nat} (hG : zG x cc nL own ret) (hd : decode cc pc = .ok (.ifCond .gt off, 3)) (ht : (pc : Int) + off = (tgt : Int)) (kt : 0 < a → zK x F tgt ls st dl σ A B) (kf : ¬ 0 < a → zK x F (pc + 3) ls st dl σ A B) : zK x F pc ls (.int a :: st) dl σ A B := by
  obtain ⟨p, l, e, R, s, m, args, below, meth, c, D, ca, b0, ad0, n0, tg⟩ := x
  obtain ⟨hx, hb, hml, hown, hts, hret, hlk, htab, hKs, hOs, hfl⟩ := hG
  intro ad H locs la cells slots h1 h2 h3 h4 h5 h6 h7 h8 h9 h10
  exact lv_if_gt hx hb hd ht (fun h => kt h ad H locs la cells slots h1 h2 h3 h4 h5 h6 h7 h8 h9 h10) (fun h => kf h ad H locs la cells slots h1 h2 h3 h4 h5 h6 h7 h8 h9 h10)
theorem z_if_le {a : Int32} {off : Int} {tgt : Nat} (hG : zG x cc nL own ret) (hd : decode cc pc = .ok (.ifCond .le off, 3)) (ht : (pc : Int) + off = (tgt : Int)) (kt : a ≤ 0 → zK x F tgt ls st dl σ A B) (kf : ¬ a ≤ 0 → zK x F (pc + 3) ls st dl σ A B) : zK x F pc ls (.int a :: st) dl σ A B := by
  obtain ⟨p, l, e, R, s, m, args, below, meth, c, D, ca, b0, ad0, n0, tg⟩ := x
  obtain ⟨hx, hb, hml, hown, hts, hret, hlk, htab, hKs, hOs, hfl⟩ := hG
  intro ad H locs la cells slots h1 h2 h3 h4 h5 h6 h7 h8 h9 h10
  exact lv_if_le hx hb hd ht (fun h => kt h ad H locs la cells slots h1 h2 h3 h4 h5 h6 h7 h8 h9 h10) (fun h => kf h ad H locs la cells slots h1 h2 h3 h4 h5 h6 h7 h8 h9 h10)
theorem z_icmp_eq {a b : Int32} {off : Int} {tgt : Nat} (hG : zG x cc nL own ret) (hd : decode cc pc = .ok (.if_icmp .eq off, 3)) (ht : (pc : Int) + off = (tgt : Int)) (kt : a = b → zK x F tgt ls st dl σ A B) (kf : ¬ a = b → zK x F (pc + 3) ls st dl σ A B) : zK x F pc ls (.int b :: .int a :: st) dl σ A B := by
  obtain ⟨p, l, e, R, s, m, args, below, meth, c, D, ca, b0, ad0, n0, tg⟩ := x
  obtain ⟨hx, hb, hml, hown, hts, hret, hlk, htab, hKs, hOs, hfl⟩ := hG
  intro ad H locs la cells slots h1 h2 h3 h4 h5 h6 h7 h8 h9 h10
  exact lv_icmp_eq hx hb hd ht (fun h => kt h ad H locs la cells slots h1 h2 h3 h4 h5 h6 h7 h8 h9 h10) (fun h => kf h ad H locs la cells slots h1 h2 h3 h4 h5 h6 h7 h8 h9 h10)
theorem z_icmp_ne {a b : Int32} {off : Int} {tgt : Nat} (hG : zG x cc nL own ret) (hd : decode cc pc = .ok (.if_icmp .ne off, 3)) (ht : (pc : Int) + off = (tgt : Int)) (kt : ¬ a = b → zK x F tgt ls st dl σ A B) (kf : a = b → zK x F (pc + 3) ls st dl σ A B) : zK x F pc ls (.int b :: .int a :: st) dl σ A B := by
  obtain ⟨p, l, e, R, s, m, args, below, meth, c, D, ca, b0, ad0, n0, tg⟩ := x
  obtain ⟨hx, hb, hml, hown, hts, hret, hlk, htab, hKs, hOs, hfl⟩ := hG
  intro ad H locs la cells slots h1 h2 h3 h4 h5 h6 h7 h8 h9 h10
  exact lv_icmp_ne hx hb hd ht (fun h => kt h ad H locs la cells slots h1 h2 h3 h4 h5 h6 h7 h8 h9 h10) (fun h => kf h ad H locs la cells slots h1 h2 h3 h4 h5 h6 h7 h8 h9 h10)
theorem z_icmp_lt {a b : Int32} {off : Int} {tgt : Nat} (hG : zG x cc nL own ret) (hd : decode cc pc = .ok (.if_icmp .lt off, 3)) (ht : (pc : Int) + off = (tgt : Int)) (kt : a < b → zK x F tgt ls st dl σ A B) (kf : ¬ a < b → zK x F (pc + 3) ls st dl σ A B) : zK x F pc ls (.int b :: .int a :: st) dl σ A B := by
  obtain ⟨p, l, e, R, s, m, args, below, meth, c, D, ca, b0, ad0, n0, tg⟩ := x
  obtain ⟨hx, hb, hml, hown, hts, hret, hlk, htab, hKs, hOs, hfl⟩ := hG
  intro ad H locs la cells slots h1 h2 h3 h4 h5 h6 h7 h8 h9 h10
  exact lv_icmp_lt hx hb hd ht (fun h => kt h ad H locs la cells slots h1 h2 h3 h4 h5 h6 h7 h8 h9 h10) (fun h => kf h ad H locs la cells slots h1 h2 h3 h4 h5 h6 h7 h8 h9 h10)
theorem z_icmp_ge {a b : Int32} {off : Int} {tgt : Nat} (hG : zG x cc nL own ret) (hd : decode cc pc = .ok (.if_icmp .ge off, 3)) (ht : (pc : Int) + off = (tgt : Int)) (kt : b ≤ a → zK x F tgt ls st dl σ A B) (kf : ¬ b ≤ a → zK x F (pc + 3) ls st dl σ A B) : zK x F pc ls (.int b :: .int a :: st) dl σ A B := by
  obtain ⟨p, l, e, R, s, m, args, below, meth, c, D, ca, b0, ad0, n0, tg⟩ := x
  obtain ⟨hx, hb, hml, hown, hts, hret, hlk, htab, hKs, hOs, hfl⟩ := hG
  intro ad H locs la cells slots h1 h2 h3 h4 h5 h6 h7 h8 h9 h10
  exact lv_icmp_ge hx hb hd ht (fun h => kt h ad H locs la cells slots h1 h2 h3 h4 h5 h6 h7 h8 h9 h10) (fun h => kf h ad H locs la cells slots h1 h2 h3 h4 h5 h6 h7 h8 h9 h10)
theorem z_icmp_gt {a b : Int32} {off : Int} {tgt : Nat} (hG : zG x cc nL own ret) (hd : decode cc pc = .ok (.if_icmp .gt off, 3)) (ht : (pc : Int) + off = (tgt : Int)) (kt : b < a → zK x F tgt ls st dl σ A B) (kf : ¬ b < a → zK x F (pc + 3) ls st dl σ A B) : zK x F pc ls (.int b :: .int a :: st) dl σ A B := by
  obtain ⟨p, l, e, R, s, m, args, below, meth, c, D, ca, b0, ad0, n0, tg⟩ := x
  obtain ⟨hx, hb, hml, hown, hts, hret, hlk, htab, hKs, hOs, hfl⟩ := hG
  intro ad H locs la cells slots h1 h2 h3 h4 h5 h6 h7 h8 h9 h10
  exact lv_icmp_gt hx hb hd ht (fun h => kt h ad H locs la cells slots h1 h2 h3 h4 h5 h6 h7 h8 h9 h10) (fun h => kf h ad H locs la cells slots h1 h2 h3 h4 h5 h6 h7 h8 h9 h10)
theorem z_icmp_le {a b : Int32} {off : Int} {tgt : Nat} (hG : zG x cc nL own ret) (hd : decode cc pc = .ok (.if_icmp .le off, 3)) (ht : (pc : Int) + off = (tgt : Int)) (kt : a ≤ b → zK x F tgt ls st dl σ A B) (kf : ¬ a ≤ b → zK x F (pc + 3) ls st dl σ A B) : zK x F pc ls (.int b :: .int a :: st) dl σ A B := by
  obtain ⟨p, l, e, R, s, m, args, below, meth, c, D, ca, b0, ad0, n0, tg⟩ := x
  obtain ⟨hx, hb, hml, hown, hts, hret, hlk, htab, hKs, hOs, hfl⟩ := hG
  intro ad H locs la cells slots h1 h2 h3 h4 h5 h6 h7 h8 h9 h10
  exact lv_icmp_le hx hb hd ht (fun h => kt h ad H locs la cells slots h1 h2 h3 h4 h5 h6 h7 h8 h9 h10) (fun h => kf h ad H locs la cells slots h1 h2 h3 h4 h5 h6 h7 h8 h9 h10)
theorem z_iinc {i : Nat} {n : Int} {a v : Int32} {ls' : List (Nat × Value)} (hG : zG x cc nL own ret) (k : Nat) (hk : ls[k]? = some (i, .int a)) (ps : List Nat) (hv : a + Int32.ofInt n = v) (hn : i < nL) (hl : lv_pick ((i, .int v) :: ls.filter (fun q => !(q.1 == i) && !(q.1 + 1 == i && q.2.category == 2))) ps = ls') (hd : decode cc pc = .ok (.iinc i n, 3))
    (kk : zK x F (pc + 3) ls' st dl σ A B) : zK x F pc ls st dl σ A B := by
  obtain ⟨p, l, e, R, s, m, args, below, meth, c, D, ca, b0, ad0, n0, tg⟩ := x
  obtain ⟨hx, hb, hml, hown, hts, hret, hlk, htab, hKs, hOs, hfl⟩ := hG
  intro ad H locs la cells slots h1 h2 h3 h4 h5 h6 h7 h8 h9 h10
  refine lv_iinc hx hb hd h6 (zrl_at hk) hv (by rw [hml]; exact hn) rfl (fun la' h6' => ?_)
  have h6'' : lv_has la' c.maxLocals (zrl ad ((i, .int v) :: ls.filter (fun q => !(q.1 == i) && !(q.1 + 1 == i && q.2.category == 2)))) := by
    rw [zrl_filter (g := fun q => !(q.1 == i) && !(q.1 + 1 == i && q.2.category == 2)) (fun q => by simp [zr_cat])] at h6'
    exact h6'
  exact kk ad H locs la' cells slots h1 h2 h3 h4 h5 (zrl_pick h6'' hl) h7 h8 h9 h10
theorem z_geti {C ref : String} {T : u_T} {N ci i index : Nat} {fl : List (Nat × Nat)} {z : Nat} (hG : zG x cc nL own ret) (hc : zcls[ci]? = some (C, T, N)) (hin : ∀ w ∈ u_ws C T N, w ∈ zT) (hi : dl[i]? = some (.inl (ci, fl))) (k : Nat) (hf : fl[k]? = some (0, z)) (hk : k < N) (hr : (T k).1 = ref) (hlink : Cond.fieldLink own index ref (T k).2.1 (T k).2.2.1 ∈ zT) (hd : decode cc pc = .ok (.getfield index, 3))
    (kk : zK x F (pc + 3) ls (.int (σ.1 i k) :: st) dl σ A B) : zK x F pc ls (.ref i :: st) dl σ A B := by
  obtain ⟨p, l, e, R, s, m, args, below, meth, c, D, ca, b0, ad0, n0, tg⟩ := x
  obtain ⟨hx, hb, hml, hown, hts, hret, hlk, htab, hKs, hOs, hfl⟩ := hG
  intro ad H locs la cells slots h1 h2 h3 h4 h5 h6 h7 h8 h9 h10
  refine va_get (D := D) (ci := ci) (v := .int (σ.1 i k)) (C := C) (T := T) (N := N) hx hb hts hin hown hKs h3 i (zws_at hi) hc k hk (hts _ hlink) (fun _ h9 => by rw [← hr]; exact h9) ?_ hd (kk ad H locs la cells slots h1 h2 h3 h4 h5 h6 h7 h8 h9 h10)
  rw [List.getElem?_mapIdx, hf]; rfl
theorem z_getr {C ref : String} {T : u_T} {N ci i index r : Nat} {fl : List (Nat × Nat)} (hG : zG x cc nL own ret) (hc : zcls[ci]? = some (C, T, N)) (hin : ∀ w ∈ u_ws C T N, w ∈ zT) (hi : dl[i]? = some (.inl (ci, fl))) (k : Nat) (hf : fl[k]? = some (1, r)) (hk : k < N) (hr : (T k).1 = ref) (hlink : Cond.fieldLink own index ref (T k).2.1 (T k).2.2.1 ∈ zT) (hd : decode cc pc = .ok (.getfield index, 3))
    (kk : zK x F (pc + 3) ls (.ref r :: st) dl σ A B) : zK x F pc ls (.ref i :: st) dl σ A B := by
  obtain ⟨p, l, e, R, s, m, args, below, meth, c, D, ca, b0, ad0, n0, tg⟩ := x
  obtain ⟨hx, hb, hml, hown, hts, hret, hlk, htab, hKs, hOs, hfl⟩ := hG
  intro ad H locs la cells slots h1 h2 h3 h4 h5 h6 h7 h8 h9 h10
  refine va_get (D := D) (ci := ci) (v := .ref (ad r)) (C := C) (T := T) (N := N) hx hb hts hin hown hKs h3 i (zws_at hi) hc k hk (hts _ hlink) (fun _ h9 => by rw [← hr]; exact h9) ?_ hd (kk ad H locs la cells slots h1 h2 h3 h4 h5 h6 h7 h8 h9 h10)
  rw [List.getElem?_mapIdx, hf]; rfl
theorem z_gets {C ref : String} {T : u_T} {N ci i index r : Nat} {fl : List (Nat × Nat)} (hG : zG x cc nL own ret) (hc : zcls[ci]? = some (C, T, N)) (hin : ∀ w ∈ u_ws C T N, w ∈ zT) (hi : dl[i]? = some (.inl (ci, fl))) (k : Nat) (hf : fl[k]? = some (2, r)) (hk : k < N) (hr : (T k).1 = ref) (hlink : Cond.fieldLink own index ref (T k).2.1 (T k).2.2.1 ∈ zT) (hd : decode cc pc = .ok (.getfield index, 3))
    (kk : zK x F (pc + 3) ls (.ref (zsp σ r) :: st) dl σ A B) : zK x F pc ls (.ref i :: st) dl σ A B := by
  obtain ⟨p, l, e, R, s, m, args, below, meth, c, D, ca, b0, ad0, n0, tg⟩ := x
  obtain ⟨hx, hb, hml, hown, hts, hret, hlk, htab, hKs, hOs, hfl⟩ := hG
  intro ad H locs la cells slots h1 h2 h3 h4 h5 h6 h7 h8 h9 h10
  refine va_get (D := D) (ci := ci) (v := .ref (ad (zsp σ r))) (C := C) (T := T) (N := N) hx hb hts hin hown hKs h3 i (zws_at hi) hc k hk (hts _ hlink) (fun _ h9 => by rw [← hr]; exact h9) ?_ hd (kk ad H locs la cells slots h1 h2 h3 h4 h5 h6 h7 h8 h9 h10)
  rw [List.getElem?_mapIdx, hf]; rfl
theorem zcell_zi {ad : Nat → Nat} {ca : Nat → ClassId} {ci i k z : Nat} {fl : List (Nat × Nat)} {v : Int32} (hf : fl[k]? = some (0, z)) : zcell ad ca (zi σ i k v) i (.inl (ci, fl)) = .inr (ci, (fl.mapIdx (fun k q => zfv ad σ i k q)).set k (.int v)) := by
  show (Sum.inr (ci, _) : va_E) = Sum.inr (ci, _)
  congr 2
  apply List.ext_getElem?
  intro j
  rw [List.getElem?_set, List.getElem?_mapIdx, List.getElem?_mapIdx, List.length_mapIdx]
  by_cases hj : k = j
  · subst hj
    rw [if_pos rfl, if_pos (List.getElem?_eq_some_iff.mp hf).1, hf]
    show some (Value.int (if i = i ∧ k = k then v else σ.1 i k)) = some (Value.int v)
    rw [if_pos ⟨rfl, rfl⟩]
  · rw [if_neg hj]
    congr 1
    funext q
    obtain ⟨a, b⟩ := q
    rcases a with _ | _ | _ | a
    · show Value.int (if i = i ∧ j = k then v else σ.1 i j) = Value.int (σ.1 i j)
      rw [if_neg (fun q => hj q.2.symm)]
    · rfl
    · rfl
    · rfl
theorem z_puti {C ref : String} {T : u_T} {N ci i index : Nat} {fl : List (Nat × Nat)} {z : Nat} {v : Int32} (hG : zG x cc nL own ret) (hc : zcls[ci]? = some (C, T, N)) (hin : ∀ w ∈ u_ws C T N, w ∈ zT) (ty0 : Nat → FieldType) (hty : ∀ k, k < N → parseFieldDescriptor (T k).2.2.1 = some (ty0 k)) (hnm : ∀ a, a < N → ∀ b, b < N → a ≠ b → (T a).2.1 ≠ (T b).2.1) (hi : dl[i]? = some (.inl (ci, fl))) (k : Nat) (hf : fl[k]? = some (0, z)) (hk : k < N) (hr : (T k).1 = ref) (hlink : Cond.fieldLink own index ref (T k).2.1 (T k).2.2.1 ∈ zT) (hfin : (T k).2.2.2 = false) (hn : narrow (ty0 k) (.int v) = .int v) (hfit : fits (ty0 k) (.int v) = true) (hd : decode cc pc = .ok (.putfield index, 3))
    (kk : zK x F (pc + 3) ls st dl (zi σ i k v) A B) : zK x F pc ls (.int v :: .ref i :: st) dl σ A B := by
  obtain ⟨p, l, e, R, s, m, args, below, meth, c, D, ca, b0, ad0, n0, tg⟩ := x
  obtain ⟨hx, hb, hml, hown, hts, hret, hlk, htab, hKs, hOs, hfl⟩ := hG
  intro ad H locs la cells slots h1 h2 h3 h4 h5 h6 h7 h8 h9 h10
  refine va_put (D := D) (ci := ci) (v := .int v) (ty := ty0 k) (C := C) (T := T) (N := N) hx hb hts hin ty0 hty hnm hown hKs h3 h4 h5 i (zws_at hi) hc k hk (hts _ hlink) (fun _ h9 => by rw [← hr]; exact h9) hfin (hty k hk) hn hfit (by rw [List.length_mapIdx]; exact (List.getElem?_eq_some_iff.mp hf).1) hd (fun H1 locs1 g1 g2 g3 => ?_)
  rw [zws_set (σ := σ) (σ' := zi σ i k v) hi (zcell_zi hf) (fun j hj => by funext q; exact if_neg (fun z => hj z.1)) (fun _ _ => rfl) rfl] at g1 g2
  exact kk ad H1 locs1 la cells slots h1 h2 g1 g2 g3 h6 h7 h8 h9 h10
theorem zad_ok {n n0 : Nat} (_ : n0 ≤ n) : True := trivial
theorem z_iald {i n : Nat} {a : Int32} (hG : zG x cc nL own ret) (hi : dl[i]? = some (.inr (0, n))) (hin : vp_in a n) (hd : decode cc pc = .ok (.iaload, 1))
    (kk : zK x F (pc + 1) ls (.int (σ.1 i a.toNatClampNeg) :: st) dl σ A B) : zK x F pc ls (.int a :: .ref i :: st) dl σ A B := by
  obtain ⟨p, l, e, R, s, m, args, below, meth, c, D, ca, b0, ad0, n0, tg⟩ := x
  obtain ⟨hx, hb, hml, hown, hts, hret, hlk, htab, hKs, hOs, hfl⟩ := hG
  intro ad H locs la cells slots h1 h2 h3 h4 h5 h6 h7 h8 h9 h10
  exact va_iald (D := D) hx hb hKs h3 i 0 (zws_at hi) rfl hin hd (kk ad H locs la cells slots h1 h2 h3 h4 h5 h6 h7 h8 h9 h10)
theorem z_bald {i n : Nat} {a : Int32} (hG : zG x cc nL own ret) (hi : dl[i]? = some (.inr (1, n))) (hin : vp_in a n) (hd : decode cc pc = .ok (.baload, 1))
    (kk : zK x F (pc + 1) ls (.int (σ.1 i a.toNatClampNeg) :: st) dl σ A B) : zK x F pc ls (.int a :: .ref i :: st) dl σ A B := by
  obtain ⟨p, l, e, R, s, m, args, below, meth, c, D, ca, b0, ad0, n0, tg⟩ := x
  obtain ⟨hx, hb, hml, hown, hts, hret, hlk, htab, hKs, hOs, hfl⟩ := hG
  intro ad H locs la cells slots h1 h2 h3 h4 h5 h6 h7 h8 h9 h10
  exact va_bald (D := D) hx hb hKs h3 i 1 (zws_at hi) rfl hin hd (kk ad H locs la cells slots h1 h2 h3 h4 h5 h6 h7 h8 h9 h10)
theorem z_zald {i n : Nat} {a : Int32} (hG : zG x cc nL own ret) (hi : dl[i]? = some (.inr (2, n))) (hin : vp_in a n) (hd : decode cc pc = .ok (.baload, 1))
    (kk : zK x F (pc + 1) ls (.int (σ.1 i a.toNatClampNeg) :: st) dl σ A B) : zK x F pc ls (.int a :: .ref i :: st) dl σ A B := by
  obtain ⟨p, l, e, R, s, m, args, below, meth, c, D, ca, b0, ad0, n0, tg⟩ := x
  obtain ⟨hx, hb, hml, hown, hts, hret, hlk, htab, hKs, hOs, hfl⟩ := hG
  intro ad H locs la cells slots h1 h2 h3 h4 h5 h6 h7 h8 h9 h10
  exact va_zald (D := D) hx hb hKs h3 i 2 (zws_at hi) rfl hin hd (kk ad H locs la cells slots h1 h2 h3 h4 h5 h6 h7 h8 h9 h10)
theorem z_lald {i n : Nat} {a : Int32} (hG : zG x cc nL own ret) (hi : dl[i]? = some (.inr (3, n))) (hin : vp_in a n) (hd : decode cc pc = .ok (.laload, 1))
    (kk : zK x F (pc + 1) ls (.long (σ.2.1 i a.toNatClampNeg) :: st) dl σ A B) : zK x F pc ls (.int a :: .ref i :: st) dl σ A B := by
  obtain ⟨p, l, e, R, s, m, args, below, meth, c, D, ca, b0, ad0, n0, tg⟩ := x
  obtain ⟨hx, hb, hml, hown, hts, hret, hlk, htab, hKs, hOs, hfl⟩ := hG
  intro ad H locs la cells slots h1 h2 h3 h4 h5 h6 h7 h8 h9 h10
  exact va_lald (D := D) hx hb hKs h3 i 3 (zws_at hi) rfl hin hd (kk ad H locs la cells slots h1 h2 h3 h4 h5 h6 h7 h8 h9 h10)
theorem z_fald {i n : Nat} {a : Int32} (hG : zG x cc nL own ret) (hi : dl[i]? = some (.inr (4, n))) (hin : vp_in a σ.2.2.2) (hd : decode cc pc = .ok (.iaload, 1))
    (kk : zK x F (pc + 1) ls (.int (σ.1 i a.toNatClampNeg) :: st) dl σ A B) : zK x F pc ls (.int a :: .ref i :: st) dl σ A B := by
  obtain ⟨p, l, e, R, s, m, args, below, meth, c, D, ca, b0, ad0, n0, tg⟩ := x
  obtain ⟨hx, hb, hml, hown, hts, hret, hlk, htab, hKs, hOs, hfl⟩ := hG
  intro ad H locs la cells slots h1 h2 h3 h4 h5 h6 h7 h8 h9 h10
  exact va_iald (D := D) hx hb hKs h3 i 0 (zws_at hi) rfl hin hd (kk ad H locs la cells slots h1 h2 h3 h4 h5 h6 h7 h8 h9 h10)
theorem zupd {i k : Nat} {v : Int32} : (zi σ i k v).1 i = upd (σ.1 i) k v := by
  funext j
  show (if i = i ∧ j = k then v else σ.1 i j) = if j = k then v else σ.1 i j
  by_cases h : j = k
  · rw [if_pos ⟨rfl, h⟩, if_pos h]
  · rw [if_neg (fun q => h q.2), if_neg h]
theorem zupdL {i k : Nat} {v : Int64} : (zl σ i k v).2.1 i = vp_updL (σ.2.1 i) k v := by
  funext j
  show (if i = i ∧ j = k then v else σ.2.1 i j) = if j = k then v else σ.2.1 i j
  by_cases h : j = k
  · rw [if_pos ⟨rfl, h⟩, if_pos h]
  · rw [if_neg (fun q => h q.2), if_neg h]
theorem z_iast {i n : Nat} {a : Int32} {v : Int32} (hG : zG x cc nL own ret) (hi : dl[i]? = some (.inr (0, n))) (hin : vp_in a n) (hd : decode cc pc = .ok (.iastore, 1))
    (kk : zK x F (pc + 1) ls st dl (zi σ i a.toNatClampNeg v) A B) : zK x F pc ls (.int v :: .int a :: .ref i :: st) dl σ A B := by
  obtain ⟨p, l, e, R, s, m, args, below, meth, c, D, ca, b0, ad0, n0, tg⟩ := x
  obtain ⟨hx, hb, hml, hown, hts, hret, hlk, htab, hKs, hOs, hfl⟩ := hG
  intro ad H locs la cells slots h1 h2 h3 h4 h5 h6 h7 h8 h9 h10
  refine va_iast (D := D) hx hb hKs h3 h4 h5 i 0 (zws_at hi) rfl hin hd (fun H1 locs1 g1 g2 g3 => ?_)
  rw [zws_set (σ := σ) (σ' := zi σ i a.toNatClampNeg v) hi (by show (.inl (ca 0, n, .inl ((zi σ i a.toNatClampNeg v).1 i)) : va_E) = _; rw [zupd]) (fun j hj => by funext q; exact if_neg (fun z => hj z.1)) (fun j hj => by rfl) rfl] at g1 g2
  exact kk ad H1 locs1 la cells slots h1 h2 g1 g2 g3 h6 h7 h8 h9 h10
theorem z_fast {i n : Nat} {a : Int32} {v : Int32} (hG : zG x cc nL own ret) (hi : dl[i]? = some (.inr (4, n))) (hin : vp_in a σ.2.2.2) (hd : decode cc pc = .ok (.iastore, 1))
    (kk : zK x F (pc + 1) ls st dl (zi σ i a.toNatClampNeg v) A B) : zK x F pc ls (.int v :: .int a :: .ref i :: st) dl σ A B := by
  obtain ⟨p, l, e, R, s, m, args, below, meth, c, D, ca, b0, ad0, n0, tg⟩ := x
  obtain ⟨hx, hb, hml, hown, hts, hret, hlk, htab, hKs, hOs, hfl⟩ := hG
  intro ad H locs la cells slots h1 h2 h3 h4 h5 h6 h7 h8 h9 h10
  refine va_iast (D := D) hx hb hKs h3 h4 h5 i 0 (zws_at hi) rfl hin hd (fun H1 locs1 g1 g2 g3 => ?_)
  rw [zws_set (σ := σ) (σ' := zi σ i a.toNatClampNeg v) hi (by show (.inl (ca 0, σ.2.2.2, .inl ((zi σ i a.toNatClampNeg v).1 i)) : va_E) = _; rw [zupd]) (fun j hj => by funext q; exact if_neg (fun z => hj z.1)) (fun j hj => by rfl) rfl] at g1 g2
  exact kk ad H1 locs1 la cells slots h1 h2 g1 g2 g3 h6 h7 h8 h9 h10
theorem z_last {i n : Nat} {a : Int32} {v : Int64} (hG : zG x cc nL own ret) (hi : dl[i]? = some (.inr (3, n))) (hin : vp_in a n) (hd : decode cc pc = .ok (.lastore, 1))
    (kk : zK x F (pc + 1) ls st dl (zl σ i a.toNatClampNeg v) A B) : zK x F pc ls (.long v :: .int a :: .ref i :: st) dl σ A B := by
  obtain ⟨p, l, e, R, s, m, args, below, meth, c, D, ca, b0, ad0, n0, tg⟩ := x
  obtain ⟨hx, hb, hml, hown, hts, hret, hlk, htab, hKs, hOs, hfl⟩ := hG
  intro ad H locs la cells slots h1 h2 h3 h4 h5 h6 h7 h8 h9 h10
  refine va_last (D := D) hx hb hKs h3 h4 h5 i 3 (zws_at hi) rfl hin hd (fun H1 locs1 g1 g2 g3 => ?_)
  rw [zws_set (σ := σ) (σ' := zl σ i a.toNatClampNeg v) hi (by show (.inl (ca 3, n, .inr (.inl ((zl σ i a.toNatClampNeg v).2.1 i))) : va_E) = _; rw [zupdL]) (fun j hj => by rfl) (fun j hj => by funext q; exact if_neg (fun z => hj z.1)) rfl] at g1 g2
  exact kk ad H1 locs1 la cells slots h1 h2 g1 g2 g3 h6 h7 h8 h9 h10
theorem z_bast {i n : Nat} {a : Int32} {v : Int32} (hG : zG x cc nL own ret) (hi : dl[i]? = some (.inr (1, n))) (hin : vp_in a n) (hd : decode cc pc = .ok (.bastore, 1))
    (kk : zK x F (pc + 1) ls st dl (zi σ i a.toNatClampNeg (vp_nar .byte v)) A B) : zK x F pc ls (.int v :: .int a :: .ref i :: st) dl σ A B := by
  obtain ⟨p, l, e, R, s, m, args, below, meth, c, D, ca, b0, ad0, n0, tg⟩ := x
  obtain ⟨hx, hb, hml, hown, hts, hret, hlk, htab, hKs, hOs, hfl⟩ := hG
  intro ad H locs la cells slots h1 h2 h3 h4 h5 h6 h7 h8 h9 h10
  refine va_bast (D := D) hx hb hKs h3 h4 h5 i 1 (zws_at hi) rfl hin hd (fun H1 locs1 g1 g2 g3 => ?_)
  rw [zws_set (σ := σ) (σ' := zi σ i a.toNatClampNeg (vp_nar .byte v)) hi (by show (.inl (ca 1, n, .inl ((zi σ i a.toNatClampNeg (vp_nar .byte v)).1 i)) : va_E) = _; rw [zupd]) (fun j hj => by funext q; exact if_neg (fun z => hj z.1)) (fun j hj => by rfl) rfl] at g1 g2
  exact kk ad H1 locs1 la cells slots h1 h2 g1 g2 g3 h6 h7 h8 h9 h10
theorem z_zast {i n : Nat} {a : Int32} {v : Int32} (hG : zG x cc nL own ret) (hi : dl[i]? = some (.inr (2, n))) (hin : vp_in a n) (hd : decode cc pc = .ok (.bastore, 1))
    (kk : zK x F (pc + 1) ls st dl (zi σ i a.toNatClampNeg (vp_nar .boolean v)) A B) : zK x F pc ls (.int v :: .int a :: .ref i :: st) dl σ A B := by
  obtain ⟨p, l, e, R, s, m, args, below, meth, c, D, ca, b0, ad0, n0, tg⟩ := x
  obtain ⟨hx, hb, hml, hown, hts, hret, hlk, htab, hKs, hOs, hfl⟩ := hG
  intro ad H locs la cells slots h1 h2 h3 h4 h5 h6 h7 h8 h9 h10
  refine va_zast (D := D) hx hb hKs h3 h4 h5 i 2 (zws_at hi) rfl hin hd (fun H1 locs1 g1 g2 g3 => ?_)
  rw [zws_set (σ := σ) (σ' := zi σ i a.toNatClampNeg (vp_nar .boolean v)) hi (by show (.inl (ca 2, n, .inl ((zi σ i a.toNatClampNeg (vp_nar .boolean v)).1 i)) : va_E) = _; rw [zupd]) (fun j hj => by funext q; exact if_neg (fun z => hj z.1)) (fun j hj => by rfl) rfl] at g1 g2
  exact kk ad H1 locs1 la cells slots h1 h2 g1 g2 g3 h6 h7 h8 h9 h10
theorem z_alenF {i n : Nat} (hG : zG x cc nL own ret) (hi : dl[i]? = some (.inr (4, n))) (hd : decode cc pc = .ok (.arraylength, 1))
    (kk : zK x F (pc + 1) ls (.int (nI σ.2.2.2) :: st) dl σ A B) : zK x F pc ls (.ref i :: st) dl σ A B := by
  obtain ⟨p, l, e, R, s, m, args, below, meth, c, D, ca, b0, ad0, n0, tg⟩ := x
  obtain ⟨hx, hb, hml, hown, hts, hret, hlk, htab, hKs, hOs, hfl⟩ := hG
  intro ad H locs la cells slots h1 h2 h3 h4 h5 h6 h7 h8 h9 h10
  exact va_alen (D := D) hx hb hKs h3 i 0 (zws_at hi) (ty := .int) rfl rfl hd (kk ad H locs la cells slots h1 h2 h3 h4 h5 h6 h7 h8 h9 h10)
theorem z_alen {i n : Nat} (hG : zG x cc nL own ret) (hi : dl[i]? = some (.inr (0, n))) (hd : decode cc pc = .ok (.arraylength, 1))
    (kk : zK x F (pc + 1) ls (.int (nI n) :: st) dl σ A B) : zK x F pc ls (.ref i :: st) dl σ A B := by
  obtain ⟨p, l, e, R, s, m, args, below, meth, c, D, ca, b0, ad0, n0, tg⟩ := x
  obtain ⟨hx, hb, hml, hown, hts, hret, hlk, htab, hKs, hOs, hfl⟩ := hG
  intro ad H locs la cells slots h1 h2 h3 h4 h5 h6 h7 h8 h9 h10
  exact va_alen (D := D) hx hb hKs h3 i 0 (zws_at hi) (ty := .int) rfl rfl hd (kk ad H locs la cells slots h1 h2 h3 h4 h5 h6 h7 h8 h9 h10)
theorem z_iret {v : Int32} {ty : FieldType} (hG : zG x cc nL own ret) (hr : ret = some ty) (hn : narrow ty (.int v) = .int v) (htg : ztg x = (.inl (some (.int v)), dl, σ)) (hd : decode cc pc = .ok (.ireturn, 1)) : zK x F pc ls [.int v] dl σ A B := by
  obtain ⟨p, l, e, R, s, m, args, below, meth, c, D, ca, b0, ad0, n0, tg⟩ := x
  obtain ⟨hx, hb, hml, hown, hts, hret, hlk, htab, hKs, hOs, hfl⟩ := hG
  intro ad H locs la cells slots h1 h2 h3 h4 h5 h6 h7 h8 h9 h10
  have htg : tg = (.inl (some (.int v)), dl, σ) := htg
  subst htg
  refine W.widen (k := R.cells) (n := R.slots) (by omega) (by omega) (vx_ret ?_)
  exact W.zret hx hb (hret.trans hr) hn (fun t ht hW => ⟨⟨_, ad, rfl, rfl, h1, by rw [show t.heap = H from ht]; exact h3, va_K.moved hW.alike hKs, h4, by rw [show t.heap = H from ht]; exact ((hOs.1.kept h5.1 h5.2.1).moved hW.alike).ad h1.hi⟩, h5.F ht⟩) h5.2.2 hd hlk
theorem z_lret {v : Int64} (hG : zG x cc nL own ret) (hr : ret = some .long) (htg : ztg x = (.inl (some (.long v)), dl, σ)) (hd : decode cc pc = .ok (.lreturn, 1)) : zK x F pc ls [.long v] dl σ A B := by
  obtain ⟨p, l, e, R, s, m, args, below, meth, c, D, ca, b0, ad0, n0, tg⟩ := x
  obtain ⟨hx, hb, hml, hown, hts, hret, hlk, htab, hKs, hOs, hfl⟩ := hG
  intro ad H locs la cells slots h1 h2 h3 h4 h5 h6 h7 h8 h9 h10
  have htg : tg = (.inl (some (.long v)), dl, σ) := htg
  subst htg
  refine W.widen (k := R.cells) (n := R.slots) (by omega) (by omega) (vx_ret ?_)
  exact W.lret hx hb (hret.trans hr) (fun t ht hW => ⟨⟨_, ad, rfl, rfl, h1, by rw [show t.heap = H from ht]; exact h3, va_K.moved hW.alike hKs, h4, by rw [show t.heap = H from ht]; exact ((hOs.1.kept h5.1 h5.2.1).moved hW.alike).ad h1.hi⟩, h5.F ht⟩) h5.2.2 hd hlk
theorem z_vret (hG : zG x cc nL own ret) (hr : ret = none) (htg : ztg x = (.inl none, dl, σ)) (hd : decode cc pc = .ok (.return_, 1)) : zK x F pc ls [] dl σ A B := by
  obtain ⟨p, l, e, R, s, m, args, below, meth, c, D, ca, b0, ad0, n0, tg⟩ := x
  obtain ⟨hx, hb, hml, hown, hts, hret, hlk, htab, hKs, hOs, hfl⟩ := hG
  intro ad H locs la cells slots h1 h2 h3 h4 h5 h6 h7 h8 h9 h10
  have htg : tg = (.inl none, dl, σ) := htg
  subst htg
  refine W.widen (k := R.cells) (n := R.slots) (by omega) (by omega) (vx_ret ?_)
  exact W.vret hx hb (hret.trans hr) (fun t ht hW => ⟨⟨_, ad, rfl, rfl, h1, by rw [show t.heap = H from ht]; exact h3, va_K.moved hW.alike hKs, h4, by rw [show t.heap = H from ht]; exact ((hOs.1.kept h5.1 h5.2.1).moved hW.alike).ad h1.hi⟩, h5.F ht⟩) h5.2.2 hd hlk
end ZR
