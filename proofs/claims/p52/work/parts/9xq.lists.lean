/-! ===== the builder holds a list; dice ===== -/
def sbL (σ : zS) (i j : Nat) (L : List Nat) : Prop := sbA σ i j (lb L) L.length
theorem lb_app {L M : List Nat} {k : Nat} : lb (L ++ M) k = if k < L.length then lb L k else lb M (k - L.length) := by
  unfold lb
  by_cases h : k < L.length
  · rw [if_pos h, List.getD_eq_getElem?_getD, List.getElem?_append_left h, ← List.getD_eq_getElem?_getD]
  · rw [if_neg h, List.getD_eq_getElem?_getD, List.getElem?_append_right (by omega), ← List.getD_eq_getElem?_getD]
theorem sbL_of {σ : zS} {i j n : Nat} {L M : List Nat} {s : Nat → Nat} (h : sbA σ i j (sb_cat (lb L) L.length s) n) (hn : n = L.length + M.length) (hs : ∀ k, k < M.length → s k = lb M k) : sbL σ i j (L ++ M) := by
  subst hn
  refine ⟨h.c0, by rw [List.length_append]; exact h.cnt, by rw [List.length_append]; exact h.le, h.cap, fun k hk => ?_, h.fit⟩
  rw [List.length_append] at hk
  have h1 := h.lat k hk
  have e : lb (L ++ M) k = sb_cat (lb L) L.length s k := by
    rw [lb_app]
    show _ = if k < L.length then lb L k else s (k - L.length)
    by_cases hkl : k < L.length
    · rw [if_pos hkl, if_pos hkl]
    · rw [if_neg hkl, if_neg hkl, hs _ (by omega)]
  rw [e]
  exact h1
theorem sbL_lo {σ σ' : zS} {N i j : Nat} {L : List Nat} (h : zLo N σ σ') (hi : i < N) (hj : j < N) (hA : sbL σ i j L) : sbL σ' i j L := sbA_lo h hi hj hA
/-- only the cells of X have changed below N -/
def agX (X : List Nat) (N : Nat) (σ σ' : zS) : Prop := (∀ a, a < N → a ∉ X → σ'.1 a = σ.1 a ∧ σ'.2.1 a = σ.2.1 a) ∧ σ'.2.2 = σ.2.2
theorem agX.tr {X Y Z : List Nat} {N M : Nat} {a b c : zS} (h : agX X N a b) (h' : agX Y M b c) (hN : N ≤ M) (hX : ∀ q, q ∈ X → q ∈ Z) (hY : ∀ q, q ∈ Y → q ∈ Z) : agX Z N a c := ⟨fun q hq hz => ⟨((h'.1 q (by omega) (fun z => hz (hY q z))).1).trans (h.1 q hq (fun z => hz (hX q z))).1, ((h'.1 q (by omega) (fun z => hz (hY q z))).2).trans (h.1 q hq (fun z => hz (hX q z))).2⟩, h'.2.trans h.2⟩
theorem agX.tr2 {X Y Z : List Nat} {N M N0 : Nat} {a b c : zS} (h : agX X N a b) (h' : agX Y M b c) (hN : N0 ≤ N) (hM : N0 ≤ M) (hX : ∀ q, q ∈ X → q < N0 → q ∈ Z) (hY : ∀ q, q ∈ Y → q < N0 → q ∈ Z) : agX Z N0 a c := ⟨fun q hq hz => ⟨((h'.1 q (by omega) (fun z => hz (hY q z hq))).1).trans (h.1 q (by omega) (fun z => hz (hX q z hq))).1, ((h'.1 q (by omega) (fun z => hz (hY q z hq))).2).trans (h.1 q (by omega) (fun z => hz (hX q z hq))).2⟩, h'.2.trans h.2⟩
theorem agX.rf {X : List Nat} {N : Nat} {σ : zS} : agX X N σ σ := ⟨fun _ _ _ => ⟨rfl, rfl⟩, rfl⟩
theorem sbO.ag {N i j : Nat} {σ σ' : zS} (h : sbO N i j σ σ') : agX [i, j] N σ σ' := ⟨fun a ha hx => h.1 a ha (fun z => hx (by rw [z]; exact List.mem_cons_self)) (fun z => hx (by rw [z]; exact List.mem_cons_of_mem _ List.mem_cons_self)), h.2⟩
theorem zLo.ag {N : Nat} {σ σ' : zS} (h : zLo N σ σ') : agX [] N σ σ' := ⟨fun a ha _ => h.1 a ha, h.2⟩
theorem zi_ag {N i k : Nat} {σ : zS} {v : Int32} : agX [i] N σ (zi σ i k v) := ⟨fun a _ hx => ⟨zi_o (fun z => hx (by rw [z]; exact List.mem_cons_self)), rfl⟩, rfl⟩
theorem sbL_ag {X : List Nat} {N i j : Nat} {σ σ' : zS} {L : List Nat} (h : agX X N σ σ') (hi : i < N) (hj : j < N) (hiX : i ∉ X) (hjX : j ∉ X) (hA : sbL σ i j L) : sbL σ' i j L := by
  have h1 := h.1 i hi hiX
  have h2 := h.1 j hj hjX
  have hL : zLn σ' j = zLn σ j := congrArg (fun z => (z 0).toNatClampNeg) h2.2
  exact ⟨by rw [h1.1]; exact hA.c0, by rw [h1.1]; exact hA.cnt, by rw [hL]; exact hA.le, by rw [hL]; exact hA.cap, by rw [h2.1]; exact hA.lat, by rw [h2.1]; exact hA.fit⟩
/-- the letters of one of the law's texts -/
def ltl (q : Nat) : List Nat := (lbyt.getD (q - 1000) []).map (fun v => v.toNatClampNeg)
theorem ltl_all : ∀ q, q < 15 → (ltl (1000 + q)).length = llen.getD (1000 + q - 1000) 0 ∧ ∀ k, k < llen.getD (1000 + q - 1000) 0 → ltx (1000 + q) k = lb (ltl (1000 + q)) k := by decide +kernel
theorem ltl_ok {q : Nat} (hq : zsq2 q = true) : llen.getD (q - 1000) 0 = (ltl q).length ∧ ∀ k, k < (ltl q).length → ltx q k = lb (ltl q) k := by
  obtain ⟨h1, h2⟩ := zsq2_lo hq
  have h := ltl_all (q - 1000) (by omega)
  rw [show 1000 + (q - 1000) = q from by omega] at h
  exact ⟨h.1.symm, fun k hk => h.2 k (by rw [← h.1]; exact hk)⟩
/-- the made string s with the bytes b holds a list -/
def zstL (σ : zS) (s b : Nat) (U : List Nat) : Prop := zstA σ s b (lb U) U.length
theorem a_T {l : Launch} (hl0 : l.flags = flags0) {dl : List zDs} {σ : zS} {i j : Nat} {L : List Nat} (hS : sbIn dl i j) (hL : sbL σ i j L) {q : Nat} {w : List Nat} (hq : zsq2 q = true) (hw : ltl q = w) (hn : L.length + w.length ≤ 499) : ∃ σ', zCg l yJ4_append_15ec4 cJ4_append_15ec4 2 (Option.some (Jvm.ClassFile.FieldType.object "java/lang/StringBuilder")) 4 1 1000 [.ref i, .ref q] dl σ (.inl (some (.ref i)), dl, σ') ∧ sbL σ' i j (L ++ w) ∧ agX [i, j] dl.length σ σ' := by
  subst hw
  obtain ⟨h1, h2⟩ := ltl_ok hq
  obtain ⟨σ', c1, c2, c3⟩ := c_appT4 hl0 hS hL hq h1 hn
  exact ⟨σ', c1, sbL_of c2 rfl h2, c3.ag⟩
theorem a_M {l : Launch} (hl0 : l.flags = flags0) {dl : List zDs} {σ : zS} {i j : Nat} {L : List Nat} (hS : sbIn dl i j) (hL : sbL σ i j L) {s b : Nat} {U : List Nat} (hM : zstM dl s b) (hU : zstL σ s b U) (hbj : b ≠ j) (hn : L.length + U.length ≤ 499) : ∃ σ', zCg l yJ4_append_15ec4 cJ4_append_15ec4 2 (Option.some (Jvm.ClassFile.FieldType.object "java/lang/StringBuilder")) 4 1 1000 [.ref i, .ref s] dl σ (.inl (some (.ref i)), dl, σ') ∧ sbL σ' i j (L ++ U) ∧ agX [i, j] dl.length σ σ' := by
  obtain ⟨σ', c1, c2, c3⟩ := c_appM4 hl0 hS hL hM hU hbj hn
  exact ⟨σ', c1, sbL_of c2 rfl (fun _ _ => rfl), c3.ag⟩
theorem a_I {l : Launch} (hl0 : l.flags = flags0) {dl : List zDs} {σ : zS} {i j : Nat} {L : List Nat} (hS : sbIn dl i j) (hL : sbL σ i j L) {k : Nat} (hk9 : k < 10) (hn : L.length + 1 ≤ 499) : ∃ σ', zCg l yJ4_append_bf812 cJ4_append_bf812 2 (Option.some (Jvm.ClassFile.FieldType.object "java/lang/StringBuilder")) 4 1 1000 [.ref i, .int (nI k)] dl σ (.inl (some (.ref i)), dl, σ') ∧ sbL σ' i j (L ++ [48 + k]) ∧ agX [i, j] dl.length σ σ' := by
  obtain ⟨σ', c1, c2, c3⟩ := c_appI4 hl0 hS hL hn hk9
  exact ⟨σ', c1, sbL_of c2 rfl (fun q hq => by
    obtain rfl : q = 0 := by
      have : q < 1 := hq
      omega
    rfl), c3.ag⟩
theorem a_C {l : Launch} (hl0 : l.flags = flags0) {dl : List zDs} {σ : zS} {i j : Nat} {L : List Nat} (hS : sbIn dl i j) (hL : sbL σ i j L) {k : Nat} (hk : k < 256) (hn : L.length + 1 ≤ 499) : ∃ σ', zCg l yJ4_append_cf468 cJ4_append_cf468 2 (Option.some (Jvm.ClassFile.FieldType.object "java/lang/StringBuilder")) 4 1 1000 [.ref i, .int (nI k)] dl σ (.inl (some (.ref i)), dl, σ') ∧ sbL σ' i j (L ++ [k]) ∧ agX [i, j] dl.length σ σ' := by
  obtain ⟨σ', c1, c2, c3⟩ := c_appC4 hl0 hS hL hn hk
  exact ⟨σ', c1, sbL_of c2 rfl (fun q hq => by
    obtain rfl : q = 0 := by
      have : q < 1 := hq
      omega
    rfl), c3.ag⟩
abbrev zDi : zDs := .inl (9, [(0, 0)])
theorem dX11_of_0 : decode cX11_of 0 = .ok (.aload_n 0, 1) := by decide +kernel
theorem dX11_of_1 : decode cX11_of 1 = .ok (.ldc 13, 2) := by decide +kernel
theorem dX11_of_3 : decode cX11_of 3 = .ok (.aload_n 0, 1) := by decide +kernel
theorem dX11_of_4 : decode cX11_of 4 = .ok (.getfield 7, 3) := by decide +kernel
theorem dX11_of_7 : decode cX11_of 7 = .ok (.imul, 1) := by decide +kernel
theorem dX11_of_8 : decode cX11_of 8 = .ok (.sipush 12345, 3) := by decide +kernel
theorem dX11_of_11 : decode cX11_of 11 = .ok (.iadd, 1) := by decide +kernel
theorem dX11_of_12 : decode cX11_of 12 = .ok (.putfield 7, 3) := by decide +kernel
theorem dX11_of_15 : decode cX11_of 15 = .ok (.aload_n 0, 1) := by decide +kernel
theorem dX11_of_16 : decode cX11_of 16 = .ok (.getfield 7, 3) := by decide +kernel
theorem dX11_of_19 : decode cX11_of 19 = .ok (.bipush 16, 2) := by decide +kernel
theorem dX11_of_21 : decode cX11_of 21 = .ok (.iushr, 1) := by decide +kernel
theorem dX11_of_22 : decode cX11_of 22 = .ok (.sipush 32767, 3) := by decide +kernel
theorem dX11_of_25 : decode cX11_of 25 = .ok (.iand, 1) := by decide +kernel
theorem dX11_of_26 : decode cX11_of 26 = .ok (.iload_n 1, 1) := by decide +kernel
theorem dX11_of_27 : decode cX11_of 27 = .ok (.irem, 1) := by decide +kernel
theorem dX11_of_28 : decode cX11_of 28 = .ok (.ireturn, 1) := by decide +kernel
theorem c_of {l : Launch} (hl0 : l.flags = flags0) {dl : List zDs} {σ : zS} {d m : Nat} (hd : dl[d]? = some zDi) (hm : 0 < m) (hm9 : m < 100) : ∃ r v, r < m ∧ zC l yX11_of cX11_of 2 (Option.some Jvm.ClassFile.FieldType.int) 0 0 0 [.ref d, .int (nI m)] dl σ (.inl (some (.int (nI r))), dl, zi σ d 0 v) := by
  obtain ⟨x, hx5, hx⟩ : ∃ x, x < 2 ^ 15 ∧ (((((zi σ d 0 ((((1103515245 : Int32) * (σ.1 d 0)) + (12345 : Int32)))).1 d 0).toUInt32 >>> ((16 : Int32).toUInt32 &&& Int32.toUInt32 31)).toInt32) &&& (32767 : Int32)) = nI x := pk_andE _ 15 (by decide)
  refine ⟨x % m, (((1103515245 : Int32) * (σ.1 d 0)) + (12345 : Int32)), Nat.mod_lt _ hm, ?_⟩
  refine zC_of hl0 rfl (Nat.le_of_ble_eq_true rfl) (fun z hG hxl hk _ => ?_)
  subst hxl
  show zK z 0 0 [(0, .ref d), (1, .int ((nI m)))] [] dl σ 0 0
  refine z_aload_n (pc := 0) hG 0 rfl rfl dX11_of_0 ?_
  refine z_ldc (pc := 1) hG w836 dX11_of_1 ?_
  refine z_aload_n (pc := 3) hG 0 rfl rfl dX11_of_3 ?_
  refine z_geti (pc := 4) hG zc_X11 inX11 hd 0 rfl (by decide) rfl w794 dX11_of_4 ?_
  refine z_imul (pc := 7) hG dX11_of_7 ?_
  refine z_sipush (pc := 8) (v := (12345 : Int32)) hG (by decide) dX11_of_8 ?_
  refine z_iadd (pc := 11) hG dX11_of_11 ?_
  refine z_puti (pc := 12) hG zc_X11 inX11 tyX11 tyX11_ok nmX11 hd 0 rfl (by decide) rfl w794 rfl rfl rfl dX11_of_12 ?_
  refine z_aload_n (pc := 15) hG 0 rfl rfl dX11_of_15 ?_
  refine z_geti (pc := 16) hG zc_X11 inX11 hd 0 rfl (by decide) rfl w794 dX11_of_16 ?_
  refine z_bipush (pc := 19) (v := (16 : Int32)) hG (by decide) dX11_of_19 ?_
  refine z_iushr (pc := 21) hG dX11_of_21 ?_
  refine z_sipush (pc := 22) (v := (32767 : Int32)) hG (by decide) dX11_of_22 ?_
  refine z_iand (pc := 25) hG dX11_of_25 ?_
  rw [show (((((zi σ d 0 ((((1103515245 : Int32) * (σ.1 d 0)) + (12345 : Int32)))).1 d 0).toUInt32 >>> ((16 : Int32).toUInt32 &&& Int32.toUInt32 31)).toInt32) &&& (32767 : Int32)) = (nI x) from hx]
  refine z_iload_n (pc := 26) hG 1 rfl rfl dX11_of_26 ?_
  refine z_irem (pc := 27) hG (nI_neq (by omega) (by decide) (by omega) : ¬ nI m = nI 0) dX11_of_27 ?_
  rw [show ((nI x) - (nI x) / (nI m) * (nI m)) = (nI (x % m)) from pk_rem (by omega) hm (by omega)]
  exact z_iret (pc := 28) hG rfl rfl hk dX11_of_28
