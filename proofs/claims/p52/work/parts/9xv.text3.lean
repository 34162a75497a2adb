/-! ===== text by contract ===== -/
theorem nbl_app {T l : List Nat} (h : nbl T) (hl : nbl l) : nbl (T ++ l) := by
  rcases h with rfl | ⟨x, C, rfl, hx⟩
  · exact hl
  · exact Or.inr ⟨x, C ++ l, rfl, hx⟩
theorem nbl_lS {l : List Nat} {Q Q' : zPl → Nat → Prop} (h : lS l Q Q') : nbl l := by
  obtain ⟨⟨x, C, e, hx⟩, -⟩ := h
  exact Or.inr ⟨x, C, e, hx⟩
/-- values of fields as text makes them -/
def mnT (n : Nat) (many : Nat → Nat) : Prop := ∀ e, e < n → 2 ≤ many e ∧ many e ≤ 4
theorem mnT_O {n : Nat} {many : Nat → Nat} (hn : n ≤ 5) (h : mnT n many) : mnO n many := ⟨hn, fun f hf => ⟨(h f hf).1, by have := (h f hf).2; omega⟩⟩
theorem gS_mn {T : List Nat} {k F G e N : Nat} {many many' : Nat → Nat} (h : ∀ f, f < F → many f = many' f) (hT : gS T k (shp F many G e N)) : gS T k (shp F many' G e N) := fun B hB => by
  obtain ⟨P, N', r, h1, h2⟩ := hT B hB
  exact ⟨P, N', r, shp_mn h h1, h2⟩
theorem updN_s {g : Nat → Nat} {k v : Nat} : updN g k v k = v := if_pos rfl
theorem updN_n {g : Nat → Nat} {k v e : Nat} (h : e ≠ k) : updN g k v e = g e := if_neg h
theorem gS_g {T : List Nat} {k F e N : Nat} {many : Nat → Nat} {G : Nat} (hT : gS T k (shp F many 0 e N)) : gS T k (shp F many G e N) := fun B hB => by
  obtain ⟨P, N', r, ⟨a, b, c, d, q⟩, h2⟩ := hT B hB
  exact ⟨P, N', r, ⟨a, b, fun _ => c rfl, d, q⟩, h2⟩
/-- one field's line -/
theorem tx_field {l : Launch} (hl0 : l.flags = flags0) {n : Nat} {T : List Nat} {σ : zS} {f k : Nat} {many : Nat → Nat} (hf : f < n) (hn : n ≤ 4) (hM : mnR σ n f many) (hm : mnT f many) (hL : sbL σ 43 44 T) (hln : T.length + 130 ≤ 499) (hT : gS T k (shp f many 0 0 0)) (hb : nbl T) {A B : Nat} : ∃ σ' many' T', mnT (f + 1) many' ∧ mnR σ' n (f + 1) many' ∧ sbL σ' 43 44 T' ∧ T'.length ≤ T.length + 26 ∧ gS T' (k + 1) (shp (f + 1) many' 0 0 0) ∧ nbl T' ∧ agX [42, 43, 44, 45] 46 σ σ' ∧ ∀ x, zHx l cL_text 8 (Option.some (Jvm.ClassFile.FieldType.object "java/lang/String")) 43 x → zK x 9 23 [(4, .int (nI (f + 1))), (3, .ref 45), (2, .int (nI n)), (1, .ref 43), (0, .ref 42)] [] zW4 σ' A B → zK x 9 23 [(4, .int (nI f)), (3, .ref 45), (2, .int (nI n)), (1, .ref 43), (0, .ref 42)] [] zW4 σ (A + 7) (B + 7000) := by
  obtain ⟨σ1, q, r, hq2, hq4, hr, hM1, L1, g1, k1⟩ := tx_A hl0 hf (by omega) hM hL (by omega) (A := A + 5) (B := B + 5000)
  have hmq : mnT (f + 1) (updN many f q) := fun e he => by
    by_cases h : e = f
    · rw [h, updN_s]
      omega
    · rw [updN_n h]
      exact hm e (by omega)
  -- named or scaled
  have hB : ∃ σ2 sc r2, sc ≤ 1 ∧ r2 < 2 ∧ sbL σ2 43 44 (T ++ [102, 105, 101, 108, 100, 32] ++ [112 + f] ++ (32 :: (wdL (1 + sc) ++ [32])) ++ [48 + q]) ∧ agX [42, 43, 44] 46 σ1 σ2 ∧ ∀ x, zHx l cL_text 8 (Option.some (Jvm.ClassFile.FieldType.object "java/lang/String")) 43 x → zK x 9 86 [(4, .int (nI f)), (3, .ref 45), (2, .int (nI n)), (1, .ref 43), (0, .ref 42)] [.int (nI r2)] zW4 σ2 (A + 3) (B + 3000) → zK x 9 60 [(4, .int (nI f)), (3, .ref 45), (2, .int (nI n)), (1, .ref 43), (0, .ref 42)] [.int (nI r), .ref 43] zW4 σ1 (A + 5) (B + 5000) := by
    have hle : (T ++ [102, 105, 101, 108, 100, 32] ++ [112 + f]).length + 60 ≤ 499 := by
      simp only [List.length_append, List.length_cons, List.length_nil]
      omega
    have hqf : updN many f q f ≤ 4 := by rw [updN_s]; exact hq4
    by_cases h0 : r = 0
    · subst h0
      obtain ⟨σ2, r2, h2, L2, g2, k2⟩ := tx_B0 hl0 hf (by omega) hM1 hqf L1 hle (A := A + 3) (B := B + 3000)
      rw [updN_s] at L2
      exact ⟨σ2, 0, r2, by omega, h2, L2, g2, k2⟩
    · obtain rfl : r = 1 := by omega
      obtain ⟨σ2, r2, h2, L2, g2, k2⟩ := tx_B1 hl0 hf (by omega) hM1 hqf L1 hle (A := A + 3) (B := B + 3000)
      rw [updN_s] at L2
      exact ⟨σ2, 1, r2, by omega, h2, L2, g2, k2⟩
  obtain ⟨σ2, sc, r2, hsc, hr2, L2, g2, k2⟩ := hB
  have hl2 : (T ++ [102, 105, 101, 108, 100, 32] ++ [112 + f] ++ (32 :: (wdL (1 + sc) ++ [32])) ++ [48 + q]).length ≤ T.length + 16 := by
    have h1 : ∀ s, s ≤ 1 → (wdL (1 + s)).length ≤ 6 := by decide
    have := h1 sc hsc
    simp only [List.length_append, List.length_cons, List.length_nil]
    omega
  have hC : ∃ σ3 w b, 1 ≤ w ∧ w ≤ 4 ∧ (b = false → w = 1) ∧ sbL σ3 43 44 (T ++ [102, 105, 101, 108, 100, 32] ++ [112 + f] ++ (32 :: (wdL (1 + sc) ++ [32])) ++ [48 + q] ++ wgt w b) ∧ agX [42, 43, 44] 46 σ2 σ3 ∧ ∀ x, zHx l cL_text 8 (Option.some (Jvm.ClassFile.FieldType.object "java/lang/String")) 43 x → zK x 9 106 [(4, .int (nI f)), (3, .ref 45), (2, .int (nI n)), (1, .ref 43), (0, .ref 42)] [] zW4 σ3 (A + 1) (B + 1000) → zK x 9 86 [(4, .int (nI f)), (3, .ref 45), (2, .int (nI n)), (1, .ref 43), (0, .ref 42)] [.int (nI r2)] zW4 σ2 (A + 3) (B + 3000) := by
    by_cases h0 : r2 = 0
    · subst h0
      obtain ⟨σ3, r3, h3, L3, g3, k3⟩ := tx_C hl0 (n := n) (f := f) L2 (by omega) (A := A + 1) (B := B + 1000)
      refine ⟨σ3, 1 + r3, true, by omega, by omega, fun z => (by cases z), ?_, g3, fun x hx kk => ?_⟩
      · have e : ∀ X : List Nat, X ++ wgt (1 + r3) true = X ++ [32, 119, 101, 105, 103, 104, 116, 32] ++ [48 + (1 + r3)] := fun X => by
          rw [List.append_assoc]
          rfl
        rw [e]
        exact L3
      · have hG := hx.1
        refine z_if_ne (pc := 86) (tgt := 106) hG dL_text_86 rfl (fun hbr => False.elim (hbr rfl)) (fun _ => ?_)
        exact k3 x hx kk
    · refine ⟨σ2, 1, false, by omega, by omega, fun _ => rfl, ?_, agX.rf, fun x hx kk => ?_⟩
      · show sbL σ2 43 44 (_ ++ [])
        rw [List.append_nil]
        exact L2
      · have hG := hx.1
        refine z_if_ne (pc := 86) (tgt := 106) hG dL_text_86 rfl (fun _ => ?_) (fun hbr => False.elim (nI_neq (by omega) (by decide) h0 (show nI r2 = nI 0 from hbr)))
        exact z_wk (by omega) (by omega) kk
  obtain ⟨σ3, w, b, hw1, hw4, hbw, L3, g3, k3⟩ := hC
  have hl3 : (wgt w b).length ≤ 9 := by
    cases b
    · exact Nat.zero_le _
    · exact Nat.le_refl _
  obtain ⟨σ4, -, L4, g4, k4⟩ := tx_D hl0 (n := n) (f := f) L3 (by rw [List.length_append]; omega) (A := A) (B := B)
  have eT : T ++ [102, 105, 101, 108, 100, 32] ++ [112 + f] ++ (32 :: (wdL (1 + sc) ++ [32])) ++ [48 + q] ++ wgt w b ++ [59] = T ++ ln0 (112 + f) q w sc b := by
    simp only [List.append_assoc, List.cons_append, List.nil_append]
    rfl
  rw [eT] at L4
  have hS := sh_field (F := f) (many := updN many f q) (by omega) hsc (by rw [updN_s]; omega) (w := w) (b := b) ⟨hw1, by omega⟩ hbw
  rw [updN_s] at hS
  refine ⟨σ4, updN many f q, T ++ ln0 (112 + f) q w sc b, hmq, mnR_ag ((g2.tr2 g3 (by decide) (by decide) (by decide) (by decide) : agX [42, 43, 44] 46 σ1 σ3).tr2 g4 (by decide) (by decide) (by decide) (by decide) : agX [42, 43, 44] 46 σ1 σ4) (by decide) (by decide) hM1, L4, ?_, gS_s (gS_mn (fun e he => (updN_n (by omega)).symm) hT) hS, nbl_app hb (nbl_lS hS), ((g1.tr2 g2 (by decide) (by decide) (by decide) (by decide) : agX [42, 43, 44, 45] 46 σ σ2).tr2 g3 (by decide) (by decide) (by decide) (by decide) : agX [42, 43, 44, 45] 46 σ σ3).tr2 g4 (by decide) (by decide) (by decide) (by decide), fun x hx kk => k1 x hx (k2 x hx (k3 x hx (k4 x hx kk)))⟩
  rw [← eT, List.length_append, List.length_append]
  show _ + _ + 1 ≤ _
  omega
theorem tx_fields {l : Launch} (hl0 : l.flags = flags0) {n : Nat} (hn : n ≤ 4) : ∀ (c f : Nat) (many : Nat → Nat) (σ : zS) (T : List Nat) (k : Nat), f + c = n → mnR σ n f many → mnT f many → sbL σ 43 44 T → T.length ≤ 26 * f → gS T k (shp f many 0 0 0) → nbl T → ∀ (A B : Nat), ∃ σ' many' T' k', mnT n many' ∧ mnR σ' n n many' ∧ sbL σ' 43 44 T' ∧ T'.length ≤ 26 * n ∧ gS T' k' (shp n many' 0 0 0) ∧ nbl T' ∧ agX [42, 43, 44, 45] 46 σ σ' ∧ ∀ x, zHx l cL_text 8 (Option.some (Jvm.ClassFile.FieldType.object "java/lang/String")) 43 x → zK x 9 23 [(4, .int (nI n)), (3, .ref 45), (2, .int (nI n)), (1, .ref 43), (0, .ref 42)] [] zW4 σ' A B → zK x 9 23 [(4, .int (nI f)), (3, .ref 45), (2, .int (nI n)), (1, .ref 43), (0, .ref 42)] [] zW4 σ (A + 7 * c) (B + 7000 * c)
  | 0, f, many, σ, T, k, hc, hM, hm, hL, hln, hT, hb, A, B => by
    obtain rfl : f = n := hc
    exact ⟨σ, many, T, k, hm, hM, hL, hln, hT, hb, agX.rf, fun x hx kk => kk⟩
  | c + 1, f, many, σ, T, k, hc, hM, hm, hL, hln, hT, hb, A, B => by
    obtain ⟨σ1, many1, T1, hm1, hM1, L1, hl1, hT1, hb1, g1, k1⟩ := tx_field hl0 (show f < n by omega) hn hM hm hL (by omega) hT hb (A := A + 7 * c) (B := B + 7000 * c)
    obtain ⟨σ2, many2, T2, k', a1, a2, a3, a4, a5, a6, a7, k2⟩ := tx_fields hl0 hn c (f + 1) many1 σ1 T1 (k + 1) (by omega) hM1 hm1 L1 (by omega) hT1 hb1 A B
    refine ⟨σ2, many2, T2, k', a1, a2, a3, a4, a5, a6, g1.tr2 a7 (by decide) (by decide) (by decide) (by decide), fun x hx kk => ?_⟩
    exact z_wk (by omega) (by omega) (k1 x hx (k2 x hx kk))
/-- the group's line, if there is one -/
theorem tx_group {l : Launch} (hl0 : l.flags = flags0) {n : Nat} {T : List Nat} {σ : zS} {k : Nat} {many : Nat → Nat} (hn : 2 ≤ n ∧ n ≤ 4) (hm : mnT n many) (hL : sbL σ 43 44 T) (hln : T.length + 130 ≤ 499) (hT : gS T k (shp n many 0 0 0)) (hb : nbl T) {A B : Nat} : ∃ σ' T' k' G, sbL σ' 43 44 T' ∧ T'.length ≤ T.length + 8 ∧ gS T' k' (shp n many G 0 0) ∧ nbl T' ∧ agX [42, 43, 44] 46 σ σ' ∧ ∀ x, zHx l cL_text 8 (Option.some (Jvm.ClassFile.FieldType.object "java/lang/String")) 43 x → zK x 9 151 [(3, .ref 45), (2, .int (nI n)), (1, .ref 43), (0, .ref 42)] [] zW4 σ' A B → zK x 9 23 [(4, .int (nI n)), (3, .ref 45), (2, .int (nI n)), (1, .ref 43), (0, .ref 42)] [] zW4 σ (A + 3) (B + 3000) := by
  obtain ⟨σ1, r, hr, L1, g1, k1⟩ := tx_E hl0 (n := n) hL (by omega) (A := A + 3) (B := B + 3000)
  by_cases h0 : r = 0
  · subst h0
    obtain ⟨σ2, f, hf, L2, g2, k2⟩ := tx_F hl0 (n := n) (by omega) L1 (by omega) (A := A) (B := B)
    have e : T ++ [103, 114, 111, 117, 112, 32] ++ [112 + f] ++ [59] = T ++ ln4 (112 + f) := by
      simp only [List.append_assoc]
      rfl
    rw [e] at L2
    have hS := sh_group (F := n) (f := f) (k := 0) (e := 0) (many := many) (by omega) hf
    refine ⟨σ2, T ++ ln4 (112 + f), k + 1, 1, L2, by rw [List.length_append]; exact Nat.le_refl _, gS_s hT hS, nbl_app hb (nbl_lS hS), g1.tr2 g2 (by decide) (by decide) (by decide) (by decide), fun x hx kk => k1 x hx ?_⟩
    have hG := hx.1
    refine z_if_ne (pc := 124) (tgt := 151) hG dL_text_124 rfl (fun hbr => False.elim (hbr rfl)) (fun _ => ?_)
    exact k2 x hx kk
  · refine ⟨σ1, T, k, 0, L1, by omega, hT, hb, g1, fun x hx kk => k1 x hx ?_⟩
    have hG := hx.1
    refine z_if_ne (pc := 124) (tgt := 151) hG dL_text_124 rfl (fun _ => ?_) (fun hbr => False.elim (nI_neq (by omega) (by decide) h0 (show nI r = nI 0 from hbr)))
    exact z_wk (by omega) (by omega) kk
/-- one edit's line -/
theorem tx_edit {l : Launch} (hl0 : l.flags = flags0) {n : Nat} {T : List Nat} {σ : zS} {k e m G : Nat} {many : Nat → Nat} (hn : 2 ≤ n ∧ n ≤ 4) (he : e < m) (hm5 : m < 5) (hM : mnR σ n n many) (hm : mnT n many) (hL : sbL σ 43 44 T) (hln : T.length + 130 ≤ 499) (hT : gS T k (shp n many G e 0)) (hb : nbl T) {A B : Nat} : ∃ σ' T', mnR σ' n n many ∧ sbL σ' 43 44 T' ∧ T'.length ≤ T.length + 36 ∧ gS T' (k + 1) (shp n many G (e + 1) 0) ∧ nbl T' ∧ agX [42, 43, 44] 46 σ σ' ∧ ∀ x, zHx l cL_text 8 (Option.some (Jvm.ClassFile.FieldType.object "java/lang/String")) 43 x → zK x 9 161 [(5, .int (nI (e + 1))), (4, .int (nI m)), (3, .ref 45), (2, .int (nI n)), (1, .ref 43), (0, .ref 42)] [] zW4 σ' A B → zK x 9 161 [(5, .int (nI e)), (4, .int (nI m)), (3, .ref 45), (2, .int (nI n)), (1, .ref 43), (0, .ref 42)] [] zW4 σ (A + 33) (B + 27048) := by
  obtain ⟨σ1, a, b, ⟨ha, hb1, hba⟩, L1, g1, k1⟩ := tx_H hl0 (n := n) (by omega) he hm5 hL (by omega) (A := A + 30) (B := B + 24048)
  have hM1 := mnR_ag g1 (by decide) (by decide) hM
  have hq := hm a ha
  have hq' := hm b hb1
  have hO := mnT_O (by omega) hm
  obtain ⟨σ2, v, u, h, o, ho, L2, g2, k2⟩ := tx_I1 hl0 (n := n) (e := e) (m := m) (a := a) (b := b) ha (by omega) hM1 (by omega) L1 (by simp only [List.length_append, List.length_cons, List.length_nil]; omega) (A := A + 17) (B := B + 14024)
  have hM2 := mnR_ag g2 (by decide) (by decide) hM1
  have hs := sps_len v u h o
  have hl2 : (T ++ [101, 100, 105, 116, 32] ++ [112 + a] ++ [32, 105, 110, 32] ++ sps v u h o).length ≤ T.length + 17 := by
    simp only [List.length_append, List.length_cons, List.length_nil]
    omega
  obtain ⟨σ3, r, hr, L3, g3, k3⟩ := tx_J hl0 (n := n) (e := e) (m := m) (a := a) (b := b) L2 (by omega) (A := A + 17) (B := B + 14024)
  have hM3 := mnR_ag g3 (by decide) (by decide) hM2
  have gA : agX [42, 43, 44] 46 σ σ3 := (g1.tr2 g2 (by decide) (by decide) (by decide) (by decide) : agX [42, 43, 44] 46 σ σ2).tr2 g3 (by decide) (by decide) (by decide) (by decide)
  by_cases h0 : r = 0
  · subst h0
    obtain ⟨σ4, -, L4, g4, k4⟩ := tx_L hl0 (n := n) (e := e) (m := m) (a := a) (b := b) L3 (by omega) (A := A) (B := B)
    have eT : T ++ [101, 100, 105, 116, 32] ++ [112 + a] ++ [32, 105, 110, 32] ++ sps v u h o ++ [59] = T ++ ln5 (112 + a) v u h o none := by
      simp only [List.append_assoc]
      rfl
    rw [eT] at L4
    have hS := sh_edit1 (G := G) (e := e) (k := 0) hO ha ho (by omega)
    refine ⟨σ4, _, mnR_ag g4 (by decide) (by decide) hM3, L4, ?_, gS_s hT hS, nbl_app hb (nbl_lS hS), gA.tr2 g4 (by decide) (by decide) (by decide) (by decide), fun x hx kk => z_wk (by omega) (by omega) (k1 x hx (z_wk (A' := A + 17 + 13) (B' := B + 14024 + 10024) (by omega) (by omega) (k2 x hx (k3 x hx ?_))))⟩
    · rw [← eT, List.length_append]
      show _ + 1 ≤ _
      omega
    · have hG := hx.1
      refine z_if_le (pc := 228) (tgt := 263) hG dL_text_228 rfl (fun _ => ?_) (fun hbr => False.elim (hbr (by decide)))
      exact z_wk (A' := A + 1) (B' := B + 1000) (by omega) (by omega) (k4 x hx kk)
  · obtain ⟨σ4, -, L4, g4, k4⟩ := tx_K hl0 (n := n) (e := e) (m := m) (a := a) (b := b) (by omega) L3 (by omega) (A := A + 14) (B := B + 11024)
    have hM4 := mnR_ag g4 (by decide) (by decide) hM3
    obtain ⟨σ5, v', u', h', o', ho', L5, g5, k5⟩ := tx_I2 hl0 (n := n) (e := e) (m := m) (a := a) (b := b) hb1 (by omega) hM4 (by omega) L4 (by simp only [List.length_append, List.length_cons, List.length_nil] at hl2 ⊢; omega) (A := A + 1) (B := B + 1000)
    have hM5 := mnR_ag g5 (by decide) (by decide) hM4
    have hs' := sps_len v' u' h' o'
    have hl5 : (T ++ [101, 100, 105, 116, 32] ++ [112 + a] ++ [32, 105, 110, 32] ++ sps v u h o ++ [32, 97, 110, 100, 32] ++ [112 + b] ++ [32, 105, 110, 32] ++ sps v' u' h' o').length ≤ T.length + 34 := by
      simp only [List.length_append, List.length_cons, List.length_nil]
      omega
    obtain ⟨σ6, -, L6, g6, k6⟩ := tx_L hl0 (n := n) (e := e) (m := m) (a := a) (b := b) L5 (by omega) (A := A) (B := B)
    have eT : T ++ [101, 100, 105, 116, 32] ++ [112 + a] ++ [32, 105, 110, 32] ++ sps v u h o ++ [32, 97, 110, 100, 32] ++ [112 + b] ++ [32, 105, 110, 32] ++ sps v' u' h' o' ++ [59] = T ++ ln5 (112 + a) v u h o (some (112 + b, v', u', h', o')) := by
      simp only [List.append_assoc]
      rfl
    rw [eT] at L6
    have hS := sh_edit2 (G := G) (e := e) (k := 0) hO ha ho hb1 ho' hba (by omega)
    refine ⟨σ6, _, mnR_ag g6 (by decide) (by decide) hM5, L6, ?_, gS_s hT hS, nbl_app hb (nbl_lS hS), ((gA.tr2 g4 (by decide) (by decide) (by decide) (by decide) : agX [42, 43, 44] 46 σ σ4).tr2 g5 (by decide) (by decide) (by decide) (by decide) : agX [42, 43, 44] 46 σ σ5).tr2 g6 (by decide) (by decide) (by decide) (by decide), fun x hx kk => z_wk (by omega) (by omega) (k1 x hx (z_wk (A' := A + 17 + 13) (B' := B + 14024 + 10024) (by omega) (by omega) (k2 x hx (k3 x hx ?_))))⟩
    · rw [← eT, List.length_append]
      show _ + 1 ≤ _
      omega
    · have hG := hx.1
      refine z_if_le (pc := 228) (tgt := 263) hG dL_text_228 rfl (fun hbr => False.elim ((nI_nle (show 0 < r by omega) (by omega)) hbr)) (fun _ => ?_)
      exact z_wk (A' := A + 14 + 3) (B' := B + 11024 + 3000) (by omega) (by omega) (k4 x hx (z_wk (A' := A + 1 + 13) (B' := B + 1000 + 10024) (by omega) (by omega) (k5 x hx (k6 x hx kk))))
theorem tx_edits {l : Launch} (hl0 : l.flags = flags0) {n : Nat} {m G : Nat} {many : Nat → Nat} (hn : 2 ≤ n ∧ n ≤ 4) (hm5 : m < 5) (hm : mnT n many) : ∀ (c e : Nat) (σ : zS) (T : List Nat) (k : Nat), e + c = m → mnR σ n n many → sbL σ 43 44 T → T.length ≤ 112 + 36 * e → gS T k (shp n many G e 0) → nbl T → ∀ (A B : Nat), ∃ σ' T' k', mnR σ' n n many ∧ sbL σ' 43 44 T' ∧ T'.length ≤ 112 + 36 * m ∧ gS T' k' (shp n many G m 0) ∧ nbl T' ∧ agX [42, 43, 44] 46 σ σ' ∧ ∀ x, zHx l cL_text 8 (Option.some (Jvm.ClassFile.FieldType.object "java/lang/String")) 43 x → zK x 9 161 [(5, .int (nI m)), (4, .int (nI m)), (3, .ref 45), (2, .int (nI n)), (1, .ref 43), (0, .ref 42)] [] zW4 σ' A B → zK x 9 161 [(5, .int (nI e)), (4, .int (nI m)), (3, .ref 45), (2, .int (nI n)), (1, .ref 43), (0, .ref 42)] [] zW4 σ (A + 33 * c) (B + 27048 * c)
  | 0, e, σ, T, k, hc, hM, hL, hln, hT, hb, A, B => by
    obtain rfl : e = m := hc
    exact ⟨σ, T, k, hM, hL, hln, hT, hb, agX.rf, fun x hx kk => kk⟩
  | c + 1, e, σ, T, k, hc, hM, hL, hln, hT, hb, A, B => by
    obtain ⟨σ1, T1, hM1, L1, hl1, hT1, hb1, g1, k1⟩ := tx_edit hl0 hn (show e < m by omega) hm5 hM hm hL (by omega) hT hb (A := A + 33 * c) (B := B + 27048 * c)
    obtain ⟨σ2, T2, k', a1, a2, a3, a4, a5, a6, k2⟩ := tx_edits hl0 hn hm5 hm c (e + 1) σ1 T1 (k + 1) (by omega) hM1 L1 (by omega) hT1 hb1 A B
    refine ⟨σ2, T2, k', a1, a2, a3, a4, a5, g1.tr2 a6 (by decide) (by decide) (by decide) (by decide), fun x hx kk => ?_⟩
    exact z_wk (by omega) (by omega) (k1 x hx (k2 x hx kk))
/-! rows -/
theorem rb_snoc : ∀ (as : List Nat) (a : Nat) (Z : List Nat), rb (as ++ [a]) Z = rb as (32 :: a :: Z)
  | [], _, _ => rfl
  | b :: as, a, Z => by
    show 32 :: b :: rb (as ++ [a]) Z = 32 :: b :: rb as (32 :: a :: Z)
    rw [rb_snoc as a Z]
theorem rb_len : ∀ (as Z : List Nat), (rb as Z).length = 2 * as.length + Z.length
  | [], Z => by
    show Z.length = 2 * 0 + Z.length
    omega
  | a :: as, Z => by
    show (rb as Z).length + 1 + 1 = 2 * (as.length + 1) + Z.length
    rw [rb_len as Z]
    omega
/-- the answers of a row so far -/
def asO (many : Nat → Nat) (as : List Nat) : Prop := ∀ i, i < as.length → as.getD i 0 = 63 ∨ ∃ v, v < many i ∧ as.getD i 0 = 48 + v
theorem asO_snoc {many : Nat → Nat} {as : List Nat} {a : Nat} (h : asO many as) (ha : a = 63 ∨ ∃ v, v < many as.length ∧ a = 48 + v) : asO many (as ++ [a]) := by
  intro i hi
  rw [List.length_append] at hi
  by_cases h1 : i < as.length
  · have e : (as ++ [a]).getD i 0 = as.getD i 0 := by
      rw [List.getD_eq_getElem?_getD, List.getElem?_append_left h1, ← List.getD_eq_getElem?_getD]
    rw [e]
    exact h i h1
  · obtain rfl : i = as.length := by
      have h2 : i < as.length + 1 := hi
      omega
    have e : (as ++ [a]).getD as.length 0 = a := by
      rw [List.getD_eq_getElem?_getD, List.getElem?_append_right (Nat.le_refl _), Nat.sub_self]
      rfl
    rw [e]
    exact ha
theorem tx_answers {l : Launch} (hl0 : l.flags = flags0) {n : Nat} {k p m : Nat} {many : Nat → Nat} {T : List Nat} (hn : 2 ≤ n ∧ n ≤ 4) (hm : mnT n many) (hT : T.length ≤ 369) : ∀ (c f : Nat) (σ : zS) (as : List Nat), f + c = n → as.length = f → asO many as → mnR σ n n many → sbL σ 43 44 (T ++ (wdL 8 ++ rb as [])) → ∀ (A B : Nat), ∃ σ' as', as'.length = n ∧ asO many as' ∧ mnR σ' n n many ∧ sbL σ' 43 44 (T ++ (wdL 8 ++ rb as' [])) ∧ agX [42, 43, 44] 46 σ σ' ∧ ∀ x, zHx l cL_text 8 (Option.some (Jvm.ClassFile.FieldType.object "java/lang/String")) 43 x → zK x 9 316 [(7, .int (nI n)), (6, .int (nI k)), (5, .int (nI p)), (4, .int (nI m)), (3, .ref 45), (2, .int (nI n)), (1, .ref 43), (0, .ref 42)] [] zW4 σ' A B → zK x 9 316 [(7, .int (nI f)), (6, .int (nI k)), (5, .int (nI p)), (4, .int (nI m)), (3, .ref 45), (2, .int (nI n)), (1, .ref 43), (0, .ref 42)] [] zW4 σ (A + 8 * c) (B + 5024 * c)
  | 0, f, σ, as, hc, hl, ha, hM, hL, A, B => by
    obtain rfl : f = n := hc
    exact ⟨σ, as, hl, ha, hM, hL, agX.rf, fun x hx kk => kk⟩
  | c + 1, f, σ, as, hc, hl, ha, hM, hL, A, B => by
    have hlen : (T ++ (wdL 8 ++ rb as [])).length + 70 ≤ 499 := by
      rw [List.length_append, List.length_append, rb_len]
      show T.length + (3 + (2 * as.length + 0)) + 70 ≤ 499
      omega
    have hq := hm f (by omega)
    obtain ⟨σ1, r, hr, L1, g1, k1⟩ := tx_O hl0 (n := n) (k := k) (p := p) (m := m) (f := f) (by omega) (by omega) hL (by omega) (A := A + 8 * c + 7) (B := B + 5024 * c + 4024)
    have hM1 := mnR_ag g1 (by decide) (by decide) hM
    have e9 : ∀ a : Nat, T ++ (wdL 8 ++ rb as []) ++ [32] ++ [a] = T ++ (wdL 8 ++ rb (as ++ [a]) []) := fun a => by
      rw [rb_snoc, List.append_assoc, List.append_assoc, List.append_assoc, rb_app]
      rfl
    have hP : ∃ σ2 a, (a = 63 ∨ ∃ v, v < many as.length ∧ a = 48 + v) ∧ sbL σ2 43 44 (T ++ (wdL 8 ++ rb as []) ++ [32] ++ [a]) ∧ agX [42, 43, 44] 46 σ1 σ2 ∧ ∀ x, zHx l cL_text 8 (Option.some (Jvm.ClassFile.FieldType.object "java/lang/String")) 43 x → zK x 9 316 [(7, .int (nI (f + 1))), (6, .int (nI k)), (5, .int (nI p)), (4, .int (nI m)), (3, .ref 45), (2, .int (nI n)), (1, .ref 43), (0, .ref 42)] [] zW4 σ2 (A + 8 * c) (B + 5024 * c) → zK x 9 334 [(7, .int (nI f)), (6, .int (nI k)), (5, .int (nI p)), (4, .int (nI m)), (3, .ref 45), (2, .int (nI n)), (1, .ref 43), (0, .ref 42)] [.int (nI r), .ref 43] zW4 σ1 (A + 8 * c + 7) (B + 5024 * c + 4024) := by
      by_cases h0 : r = 0
      · subst h0
        obtain ⟨σ2, -, L2, g2, k2⟩ := tx_P0 hl0 (n := n) (k := k) (p := p) (m := m) (f := f) L1 (by rw [List.length_append]; show _ + 1 + 60 ≤ 499; omega) (A := A + 8 * c) (B := B + 5024 * c)
        exact ⟨σ2, 63, Or.inl rfl, L2, g2, fun x hx kk => z_wk (by omega) (by omega) (k2 x hx kk)⟩
      · obtain ⟨σ2, v, hv, L2, g2, k2⟩ := tx_P1 hl0 (n := n) (k := k) (p := p) (m := m) (f := f) (r := r) (nI_neq (by omega) (by decide) h0 : ¬ nI r = nI 0) (by omega) (by omega) hM1 (by omega) L1 (by rw [List.length_append]; show _ + 1 + 60 ≤ 499; omega) (A := A + 8 * c) (B := B + 5024 * c)
        exact ⟨σ2, 48 + v, Or.inr ⟨v, by rw [hl]; exact hv, rfl⟩, L2, g2, k2⟩
    obtain ⟨σ2, a, hao, L2, g2, k2⟩ := hP
    rw [e9] at L2
    obtain ⟨σ3, as3, b1, b2, b3, b4, b5, k3⟩ := tx_answers hl0 (k := k) (p := p) (m := m) hn hm hT c (f + 1) σ2 (as ++ [a]) (by omega) (by rw [List.length_append, hl]; rfl) (asO_snoc ha hao) (mnR_ag g2 (by decide) (by decide) hM1) L2 A B
    refine ⟨σ3, as3, b1, b2, b3, b4, (g1.tr2 g2 (by decide) (by decide) (by decide) (by decide) : agX [42, 43, 44] 46 σ σ2).tr2 b5 (by decide) (by decide) (by decide) (by decide), fun x hx kk => ?_⟩
    exact z_wk (by omega) (by omega) (k1 x hx (k2 x hx (k3 x hx kk)))
theorem tx_row {l : Launch} (hl0 : l.flags = flags0) {n : Nat} {k p m G e K : Nat} {many : Nat → Nat} {T : List Nat} {σ : zS} (hn : 2 ≤ n ∧ n ≤ 4) (hm : mnT n many) (hk : k < p) (hp : p ≤ 8) (h370 : T.length < 370) (hM : mnR σ n n many) (hL : sbL σ 43 44 T) (hT : gS T K (shp n many G e k)) (hb : nbl T) {A B : Nat} : ∃ σ' T', mnR σ' n n many ∧ sbL σ' 43 44 T' ∧ T'.length ≤ 382 ∧ gS T' (K + 1) (shp n many G e (k + 1)) ∧ nbl T' ∧ agX [42, 43, 44] 46 σ σ' ∧ ∀ x, zHx l cL_text 8 (Option.some (Jvm.ClassFile.FieldType.object "java/lang/String")) 43 x → zK x 9 289 [(6, .int (nI (k + 1))), (5, .int (nI p)), (4, .int (nI m)), (3, .ref 45), (2, .int (nI n)), (1, .ref 43), (0, .ref 42)] [] zW4 σ' A B → zK x 9 289 [(6, .int (nI k)), (5, .int (nI p)), (4, .int (nI m)), (3, .ref 45), (2, .int (nI n)), (1, .ref 43), (0, .ref 42)] [] zW4 σ (A + 34) (B + 22096) := by
  obtain ⟨σ1, -, L1, g1, k1⟩ := tx_N hl0 (n := n) (k := k) (p := p) (m := m) hk hp h370 hL (by omega) (A := A + 33) (B := B + 21096)
  have e1 : T ++ [114, 111, 119] = T ++ (wdL 8 ++ rb [] []) := rfl
  rw [e1] at L1
  obtain ⟨σ2, as, hl, ha, hM2, L2, g2, k2⟩ := tx_answers hl0 (k := k) (p := p) (m := m) hn hm (by omega) n 0 σ1 [] (by omega) rfl (fun i hi => absurd hi (Nat.not_lt_zero i)) (mnR_ag g1 (by decide) (by decide) hM) L1 (A + 1) (B + 1000)
  have hlen : (T ++ (wdL 8 ++ rb as [])).length ≤ T.length + 11 := by
    rw [List.length_append, List.length_append, rb_len]
    show T.length + (3 + (2 * as.length + 0)) ≤ _
    omega
  obtain ⟨σ3, -, L3, g3, k3⟩ := tx_Q hl0 (n := n) (k := k) (p := p) (m := m) L2 (by omega) (A := A) (B := B)
  have e3 : T ++ (wdL 8 ++ rb as []) ++ [59] = T ++ ln8 as := by
    rw [List.append_assoc, List.append_assoc, rb_app]
    rfl
  rw [e3] at L3
  have hS := sh_row (G := G) (e := e) (mnT_O (by omega) hm) (by omega) (show k < 40 by omega) hl (fun i hi => ha i (by omega))
  refine ⟨σ3, T ++ ln8 as, mnR_ag g3 (by decide) (by decide) hM2, L3, ?_, gS_s hT hS, nbl_app hb (nbl_lS hS), (g1.tr2 g2 (by decide) (by decide) (by decide) (by decide) : agX [42, 43, 44] 46 σ σ2).tr2 g3 (by decide) (by decide) (by decide) (by decide), fun x hx kk => ?_⟩
  · rw [← e3, List.length_append]
    show _ + 1 ≤ _
    omega
  · exact z_wk (A' := A + 33 + 1) (B' := B + 21096 + 1000) (by omega) (by omega) (k1 x hx (z_wk (A' := A + 1 + 8 * n) (B' := B + 1000 + 5024 * n) (by omega) (by omega) (k2 x hx (k3 x hx kk))))
/-- what text comes to -/
def txG (T : List Nat) : Prop := ∃ K n many G e k, 2 ≤ n ∧ n ≤ 4 ∧ mnT n many ∧ k ≤ 8 ∧ e ≤ 4 ∧ gS T K (shp n many G e k) ∧ nbl T ∧ T.length ≤ 382
theorem tx_rows {l : Launch} (hl0 : l.flags = flags0) {n : Nat} {p m G e : Nat} {many : Nat → Nat} (hn : 2 ≤ n ∧ n ≤ 4) (hm : mnT n many) (hp : p ≤ 8) (he : e ≤ 4) : ∀ (c k : Nat) (σ : zS) (T : List Nat) (K : Nat), k + c = p → mnR σ n n many → sbL σ 43 44 T → T.length ≤ 382 → gS T K (shp n many G e k) → nbl T → ∀ (A B : Nat), ∃ σ' T', txG T' ∧ zstL σ' 46 47 T' ∧ agX [] 42 σ σ' ∧ ∀ x, zHx l cL_text 8 (Option.some (Jvm.ClassFile.FieldType.object "java/lang/String")) 43 x → ztg x = (.inl (some (.ref 46)), zWt, σ') → zK x 9 289 [(6, .int (nI k)), (5, .int (nI p)), (4, .int (nI m)), (3, .ref 45), (2, .int (nI n)), (1, .ref 43), (0, .ref 42)] [] zW4 σ (A + 2 + 34 * c) (B + 1004 + 22096 * c)
  | 0, k, σ, T, K, hc, hM, hL, hln, hT, hb, A, B => by
    obtain ⟨σ', h1, h2, h3⟩ := tx_Z1 hl0 (n := n) (k := k) (p := p) (m := m) (by omega) (by omega) hL (A := A) (B := B)
    exact ⟨σ', T, ⟨K, n, many, G, e, k, hn.1, hn.2, hm, by omega, he, hT, hb, hln⟩, h1, h2, fun x hx htg => z_wk (by omega) (by omega) (h3 x hx htg)⟩
  | c + 1, k, σ, T, K, hc, hM, hL, hln, hT, hb, A, B => by
    by_cases h370 : T.length < 370
    · obtain ⟨σ1, T1, hM1, L1, hl1, hT1, hb1, g1, k1⟩ := tx_row hl0 (m := m) hn hm (show k < p by omega) hp h370 hM hL hT hb (A := A + 2 + 34 * c) (B := B + 1004 + 22096 * c)
      obtain ⟨σ2, T2, a1, a2, a3, k2⟩ := tx_rows hl0 (m := m) hn hm hp he c (k + 1) σ1 T1 (K + 1) (by omega) hM1 L1 hl1 hT1 hb1 A B
      refine ⟨σ2, T2, a1, a2, (g1.tr2 a3 (by decide) (by decide) (by decide) (by decide)), fun x hx htg => ?_⟩
      exact z_wk (by omega) (by omega) (k1 x hx (k2 x hx htg))
    · obtain ⟨σ', h1, h2, h3⟩ := tx_Z2 hl0 (n := n) (k := k) (p := p) (m := m) (by omega) hp (by omega) hL (A := A) (B := B)
      exact ⟨σ', T, ⟨K, n, many, G, e, k, hn.1, hn.2, hm, by omega, he, hT, hb, hln⟩, h1, h2, fun x hx htg => z_wk (by omega) (by omega) (h3 x hx htg)⟩
