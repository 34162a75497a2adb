
/-! ===== the loop of the law, its start ===== -/
def R_law : String := "EditMenderLaw"
def lw_P (b : Addr) (xs : List Int32) (args : Array Value) (s : State) : Prop := args = #[.ref b] ∧ s.IntsAt b xs ∧ xs.length ≤ 3072 ∧ (Jvm.Cond.and given_1 narrow_1).before args s = true
def lw_Q (_ : Array Value) (s : State) (o : Outcome) (t : State) : Prop := o = .returned (some (.int 1)) ∧ Framed s o t [] 601024 7293034
def lw_Z (below : List Frame) (a : Array Value) (s : State) : State → Prop := fun t => ∃ o, t.status = .running ∧ Ended t below o ∧ lw_Q a s o t
/-- the law's own end, with 1 on the stack, nothing written that was there before, its room as the claim has it -/
theorem lw_ret {p : Program} {l : Launch} {e : Env} {s : State} {m : MethodId} {below : List Frame} {meth : Method} {c : Code} {b : Nat} (hx : p.tables.exec = Jvm.exec) (hb : c.code = code) (hr : meth.sig.returnType = ret) (hlocks : meth.locks = false) {pc : Nat} {H : Heap} {ls : Array Slot} (hdg : decode code pc = .ok (.ireturn, 1)) : W p l e room_1 s m #[Value.ref b] below meth c H [] 601024 7293034 (lw_Z below #[Value.ref b] s) (F0 m pc ls [.int 1]) := by
  intro T hT X
  obtain ⟨fs, hret, hrun, hended, hW, hframe⟩ := X.leave (v := some (.int 1)) (hlocks := hlocks) (fun h => by rw [hr] at h; cases h)
  have hmeth' : T.vm.method? m = some meth := X.method'
  refine ⟨T.setFrames fs, ?_, .returned (some (.int 1)), hrun, hended, rfl, ⟨_, rfl⟩, hW, hframe⟩
  jvm_step X.here [X.here.top, hx, hb, hdg, hmeth', hr, ret, narrow_b1]
  (try refine ⟨rfl, ?_⟩); (try refine ⟨rfl, ?_⟩)
  first | (intro acts; rw [hret _ acts rfl rfl rfl]) | rw [hret _ _ rfl rfl rfl]
  exact Steps.refl _
/-- what holds at the law's entry: the machine, the code, the tables' words (any of lw_tbl by 'hts w (by decide +kernel)'), the script of L ints xs at the cell b, what the Statement gives of the start (any of its parts by flat_of_before) -/
def lw_At (p : Program) (s : State) (m : MethodId) (meth : Method) (c : Code) (b L : Nat) (xs : Nat → Int32) : Prop :=
  p.tables.exec = Jvm.exec ∧ c.code = code ∧ meth.sig.returnType = ret ∧ c.maxLocals = 7 ∧ s.vm.findClass R_law = some m.cls ∧ (∀ w ∈ lw_tbl, w.before #[Value.ref b] s = true) ∧ va_X b L xs s s.heap ∧ b < s.heap.size ∧ meth.locks = false ∧ (Jvm.Cond.and given_1 narrow_1).before #[Value.ref b] s = true

noncomputable def nSt (v : Int32) (a : Nat → Int32) (g : zS) : Option zS :=
  if v = 0 then nU_0 a g else
  if v = 1 then nU_1 a g else
  if v = 2 then nU_2 a g else
  if v = 3 then nU_3 a g else
  if v = 4 then nU_4 a g else
  if v = 5 then nU_5 a g else
  if v = 6 then nU_6 a g else
  if v = 7 then nU_7 a g else
  if v = 8 then nU_8 a g else
  if v = 9 then nU_9 a g else
  if v = 10 then nU_10 a g else
  if v = 11 then nU_11 a g else
  if v = 12 then nU_12 a g else
  if v = 13 then nU_13 a g else
  if v = 14 then nU_14 a g else
  if v = 15 then nU_15 a g else
  if v = 16 then nU_16 a g else
  if v = 17 then nU_17 a g else
  if v = 18 then nU_18 a g else
  if v = 19 then nU_19 a g else
  if v = 20 then nU_20 a g else
  if v = 21 then nU_21 a g else
  if v = 22 then nU_22 a g else
  if v = 23 then nU_23 a g else
  if v = 24 then nU_24 a g else
  if v = 25 then nU_25 a g else
  if v = 26 then nU_26 a g else
  if v = 27 then nU_27 a g else
  if v = 28 then nU_28 a g else
  if v = 29 then nU_29 a g else
  if v = 30 then nU_30 a g else
  if v = 31 then nU_31 a g else
  if v = 32 then nU_32 a g else
  if v = 33 then nU_33 a g else
  if v = 34 then nU_34 a g else
  if v = 35 then nS_35 a g else
  if v = 36 then nU_36 a g else
  if v = 37 then nU_37 a g else
  if v = 38 then nU_38 a g else
  if v = 39 then nU_39 a g else
  if v = 40 then nU_40 a g else
  if v = 41 then nU_41 a g else
  if v = 42 then nU_42 a g else
  if v = 43 then nU_43 a g else
  if v = 44 then nU_44 a g else
  if v = 45 then nU_45 a g else
  if v = 46 then nU_46 a g else
  if v = 47 then nU_47 a g else
  if v = 48 then nU_48 a g else
  some g
set_option maxHeartbeats 1000000 in
theorem law_tab {x : zXx} {i : Int32} {a : Nat → Int32} (hl0 : (zl0 x).flags = flags0) (hG : zG x cL_law 7 RL ret) (hPx : zPx x.2.2.2.2.1) (hS : zScr x i a) {A0 B0 C : Nat} {v : Int32} (g : zS) {r : zS} (h : nSt v a g = some r) (kf : zgr r C ∧ zK x 66 1939 [(0, .ref 950), (1, .ref 0), (2, .ref 42), (3, .ref 72), (4, .int i)] [] zD r (A0 + (C / 64 - r.2.2.2 / 64)) (B0 + 2 * (C - r.2.2.2))) : zgr g C ∧ zK x 66 40 [(0, .ref 950), (1, .ref 0), (2, .ref 42), (3, .ref 72), (4, .int i)] [.int v] zD g (A0 + 3 + (C / 64 - g.2.2.2 / 64)) (B0 + 18 + 2 * (C - g.2.2.2)) := by
  unfold nSt at h
  by_cases h0 : v = 0
  · replace h := zif_t h0 h
    obtain ⟨z1, z2⟩ := tS_0 hl0 hG hPx hS g h kf
    exact ⟨z1, z_wk (A' := A0 + 0 + (C / 64 - g.2.2.2 / 64)) (B' := B0 + 0 + 2 * (C - g.2.2.2)) (by omega) (by omega) (z_tabIn (pc := 40) (tgt := 252) hG dL_law_40 (by rw [h0]; decide) (by rw [h0]; decide) (by rw [h0]; rfl) rfl z2)⟩
  replace h := zif_f h0 h
  by_cases h1 : v = 1
  · replace h := zif_t h1 h
    obtain ⟨z1, z2⟩ := tS_1 hl0 hG hPx hS g h kf
    exact ⟨z1, z_wk (A' := A0 + 0 + (C / 64 - g.2.2.2 / 64)) (B' := B0 + 0 + 2 * (C - g.2.2.2)) (by omega) (by omega) (z_tabIn (pc := 40) (tgt := 325) hG dL_law_40 (by rw [h1]; decide) (by rw [h1]; decide) (by rw [h1]; rfl) rfl z2)⟩
  replace h := zif_f h1 h
  by_cases h2 : v = 2
  · replace h := zif_t h2 h
    obtain ⟨z1, z2⟩ := tS_2 hl0 hG hPx hS g h kf
    exact ⟨z1, z_wk (A' := A0 + 1 + (C / 64 - g.2.2.2 / 64)) (B' := B0 + 6 + 2 * (C - g.2.2.2)) (by omega) (by omega) (z_tabIn (pc := 40) (tgt := 350) hG dL_law_40 (by rw [h2]; decide) (by rw [h2]; decide) (by rw [h2]; rfl) rfl z2)⟩
  replace h := zif_f h2 h
  by_cases h3 : v = 3
  · replace h := zif_t h3 h
    obtain ⟨z1, z2⟩ := tS_3 hl0 hG hPx hS g h kf
    exact ⟨z1, z_wk (A' := A0 + 0 + (C / 64 - g.2.2.2 / 64)) (B' := B0 + 0 + 2 * (C - g.2.2.2)) (by omega) (by omega) (z_tabIn (pc := 40) (tgt := 366) hG dL_law_40 (by rw [h3]; decide) (by rw [h3]; decide) (by rw [h3]; rfl) rfl z2)⟩
  replace h := zif_f h3 h
  by_cases h4 : v = 4
  · replace h := zif_t h4 h
    obtain ⟨z1, z2⟩ := tS_4 hl0 hG hPx hS g h kf
    exact ⟨z1, z_wk (A' := A0 + 2 + (C / 64 - g.2.2.2 / 64)) (B' := B0 + 12 + 2 * (C - g.2.2.2)) (by omega) (by omega) (z_tabIn (pc := 40) (tgt := 379) hG dL_law_40 (by rw [h4]; decide) (by rw [h4]; decide) (by rw [h4]; rfl) rfl z2)⟩
  replace h := zif_f h4 h
  by_cases h5 : v = 5
  · replace h := zif_t h5 h
    obtain ⟨z1, z2⟩ := tS_5 hl0 hG hPx hS g h kf
    exact ⟨z1, z_wk (A' := A0 + 1 + (C / 64 - g.2.2.2 / 64)) (B' := B0 + 6 + 2 * (C - g.2.2.2)) (by omega) (by omega) (z_tabIn (pc := 40) (tgt := 419) hG dL_law_40 (by rw [h5]; decide) (by rw [h5]; decide) (by rw [h5]; rfl) rfl z2)⟩
  replace h := zif_f h5 h
  by_cases h6 : v = 6
  · replace h := zif_t h6 h
    obtain ⟨z1, z2⟩ := tS_6 hl0 hG hPx hS g h kf
    exact ⟨z1, z_wk (A' := A0 + 2 + (C / 64 - g.2.2.2 / 64)) (B' := B0 + 12 + 2 * (C - g.2.2.2)) (by omega) (by omega) (z_tabIn (pc := 40) (tgt := 459) hG dL_law_40 (by rw [h6]; decide) (by rw [h6]; decide) (by rw [h6]; rfl) rfl z2)⟩
  replace h := zif_f h6 h
  by_cases h7 : v = 7
  · replace h := zif_t h7 h
    obtain ⟨z1, z2⟩ := tS_7 hl0 hG hPx hS g h kf
    exact ⟨z1, z_wk (A' := A0 + 1 + (C / 64 - g.2.2.2 / 64)) (B' := B0 + 6 + 2 * (C - g.2.2.2)) (by omega) (by omega) (z_tabIn (pc := 40) (tgt := 499) hG dL_law_40 (by rw [h7]; decide) (by rw [h7]; decide) (by rw [h7]; rfl) rfl z2)⟩
  replace h := zif_f h7 h
  by_cases h8 : v = 8
  · replace h := zif_t h8 h
    obtain ⟨z1, z2⟩ := tS_8 hl0 hG hPx hS g h kf
    exact ⟨z1, z_wk (A' := A0 + 1 + (C / 64 - g.2.2.2 / 64)) (B' := B0 + 6 + 2 * (C - g.2.2.2)) (by omega) (by omega) (z_tabIn (pc := 40) (tgt := 527) hG dL_law_40 (by rw [h8]; decide) (by rw [h8]; decide) (by rw [h8]; rfl) rfl z2)⟩
  replace h := zif_f h8 h
  by_cases h9 : v = 9
  · replace h := zif_t h9 h
    obtain ⟨z1, z2⟩ := tS_9 hl0 hG hPx hS g h kf
    exact ⟨z1, z_wk (A' := A0 + 1 + (C / 64 - g.2.2.2 / 64)) (B' := B0 + 6 + 2 * (C - g.2.2.2)) (by omega) (by omega) (z_tabIn (pc := 40) (tgt := 583) hG dL_law_40 (by rw [h9]; decide) (by rw [h9]; decide) (by rw [h9]; rfl) rfl z2)⟩
  replace h := zif_f h9 h
  by_cases h10 : v = 10
  · replace h := zif_t h10 h
    obtain ⟨z1, z2⟩ := tS_10 hl0 hG hPx hS g h kf
    exact ⟨z1, z_wk (A' := A0 + 0 + (C / 64 - g.2.2.2 / 64)) (B' := B0 + 0 + 2 * (C - g.2.2.2)) (by omega) (by omega) (z_tabIn (pc := 40) (tgt := 611) hG dL_law_40 (by rw [h10]; decide) (by rw [h10]; decide) (by rw [h10]; rfl) rfl z2)⟩
  replace h := zif_f h10 h
  by_cases h11 : v = 11
  · replace h := zif_t h11 h
    obtain ⟨z1, z2⟩ := tS_11 hl0 hG hPx hS g h kf
    exact ⟨z1, z_wk (A' := A0 + 2 + (C / 64 - g.2.2.2 / 64)) (B' := B0 + 12 + 2 * (C - g.2.2.2)) (by omega) (by omega) (z_tabIn (pc := 40) (tgt := 624) hG dL_law_40 (by rw [h11]; decide) (by rw [h11]; decide) (by rw [h11]; rfl) rfl z2)⟩
  replace h := zif_f h11 h
  by_cases h12 : v = 12
  · replace h := zif_t h12 h
    obtain ⟨z1, z2⟩ := tS_12 hl0 hG hPx hS g h kf
    exact ⟨z1, z_wk (A' := A0 + 0 + (C / 64 - g.2.2.2 / 64)) (B' := B0 + 0 + 2 * (C - g.2.2.2)) (by omega) (by omega) (z_tabIn (pc := 40) (tgt := 664) hG dL_law_40 (by rw [h12]; decide) (by rw [h12]; decide) (by rw [h12]; rfl) rfl z2)⟩
  replace h := zif_f h12 h
  by_cases h13 : v = 13
  · replace h := zif_t h13 h
    obtain ⟨z1, z2⟩ := tS_13 hl0 hG hPx hS g h kf
    exact ⟨z1, z_wk (A' := A0 + 1 + (C / 64 - g.2.2.2 / 64)) (B' := B0 + 6 + 2 * (C - g.2.2.2)) (by omega) (by omega) (z_tabIn (pc := 40) (tgt := 677) hG dL_law_40 (by rw [h13]; decide) (by rw [h13]; decide) (by rw [h13]; rfl) rfl z2)⟩
  replace h := zif_f h13 h
  by_cases h14 : v = 14
  · replace h := zif_t h14 h
    obtain ⟨z1, z2⟩ := tS_14 hl0 hG hPx hS g h kf
    exact ⟨z1, z_wk (A' := A0 + 2 + (C / 64 - g.2.2.2 / 64)) (B' := B0 + 12 + 2 * (C - g.2.2.2)) (by omega) (by omega) (z_tabIn (pc := 40) (tgt := 705) hG dL_law_40 (by rw [h14]; decide) (by rw [h14]; decide) (by rw [h14]; rfl) rfl z2)⟩
  replace h := zif_f h14 h
  by_cases h15 : v = 15
  · replace h := zif_t h15 h
    obtain ⟨z1, z2⟩ := tS_15 hl0 hG hPx hS g h kf
    exact ⟨z1, z_wk (A' := A0 + 3 + (C / 64 - g.2.2.2 / 64)) (B' := B0 + 18 + 2 * (C - g.2.2.2)) (by omega) (by omega) (z_tabIn (pc := 40) (tgt := 745) hG dL_law_40 (by rw [h15]; decide) (by rw [h15]; decide) (by rw [h15]; rfl) rfl z2)⟩
  replace h := zif_f h15 h
  by_cases h16 : v = 16
  · replace h := zif_t h16 h
    obtain ⟨z1, z2⟩ := tS_16 hl0 hG hPx hS g h kf
    exact ⟨z1, z_wk (A' := A0 + 2 + (C / 64 - g.2.2.2 / 64)) (B' := B0 + 12 + 2 * (C - g.2.2.2)) (by omega) (by omega) (z_tabIn (pc := 40) (tgt := 797) hG dL_law_40 (by rw [h16]; decide) (by rw [h16]; decide) (by rw [h16]; rfl) rfl z2)⟩
  replace h := zif_f h16 h
  by_cases h17 : v = 17
  · replace h := zif_t h17 h
    obtain ⟨z1, z2⟩ := tS_17 hl0 hG hPx hS g h kf
    exact ⟨z1, z_wk (A' := A0 + 1 + (C / 64 - g.2.2.2 / 64)) (B' := B0 + 6 + 2 * (C - g.2.2.2)) (by omega) (by omega) (z_tabIn (pc := 40) (tgt := 825) hG dL_law_40 (by rw [h17]; decide) (by rw [h17]; decide) (by rw [h17]; rfl) rfl z2)⟩
  replace h := zif_f h17 h
  by_cases h18 : v = 18
  · replace h := zif_t h18 h
    obtain ⟨z1, z2⟩ := tS_18 hl0 hG hPx hS g h kf
    exact ⟨z1, z_wk (A' := A0 + 1 + (C / 64 - g.2.2.2 / 64)) (B' := B0 + 6 + 2 * (C - g.2.2.2)) (by omega) (by omega) (z_tabIn (pc := 40) (tgt := 841) hG dL_law_40 (by rw [h18]; decide) (by rw [h18]; decide) (by rw [h18]; rfl) rfl z2)⟩
  replace h := zif_f h18 h
  by_cases h19 : v = 19
  · replace h := zif_t h19 h
    obtain ⟨z1, z2⟩ := tS_19 hl0 hG hPx hS g h kf
    exact ⟨z1, z_wk (A' := A0 + 2 + (C / 64 - g.2.2.2 / 64)) (B' := B0 + 12 + 2 * (C - g.2.2.2)) (by omega) (by omega) (z_tabIn (pc := 40) (tgt := 869) hG dL_law_40 (by rw [h19]; decide) (by rw [h19]; decide) (by rw [h19]; rfl) rfl z2)⟩
  replace h := zif_f h19 h
  by_cases h20 : v = 20
  · replace h := zif_t h20 h
    obtain ⟨z1, z2⟩ := tS_20 hl0 hG hPx hS g h kf
    exact ⟨z1, z_wk (A' := A0 + 3 + (C / 64 - g.2.2.2 / 64)) (B' := B0 + 18 + 2 * (C - g.2.2.2)) (by omega) (by omega) (z_tabIn (pc := 40) (tgt := 909) hG dL_law_40 (by rw [h20]; decide) (by rw [h20]; decide) (by rw [h20]; rfl) rfl z2)⟩
  replace h := zif_f h20 h
  by_cases h21 : v = 21
  · replace h := zif_t h21 h
    obtain ⟨z1, z2⟩ := tS_21 hl0 hG hPx hS g h kf
    exact ⟨z1, z_wk (A' := A0 + 3 + (C / 64 - g.2.2.2 / 64)) (B' := B0 + 18 + 2 * (C - g.2.2.2)) (by omega) (by omega) (z_tabIn (pc := 40) (tgt := 949) hG dL_law_40 (by rw [h21]; decide) (by rw [h21]; decide) (by rw [h21]; rfl) rfl z2)⟩
  replace h := zif_f h21 h
  by_cases h22 : v = 22
  · replace h := zif_t h22 h
    obtain ⟨z1, z2⟩ := tS_22 hl0 hG hPx hS g h kf
    exact ⟨z1, z_wk (A' := A0 + 2 + (C / 64 - g.2.2.2 / 64)) (B' := B0 + 12 + 2 * (C - g.2.2.2)) (by omega) (by omega) (z_tabIn (pc := 40) (tgt := 989) hG dL_law_40 (by rw [h22]; decide) (by rw [h22]; decide) (by rw [h22]; rfl) rfl z2)⟩
  replace h := zif_f h22 h
  by_cases h23 : v = 23
  · replace h := zif_t h23 h
    obtain ⟨z1, z2⟩ := tS_23 hl0 hG hPx hS g h kf
    exact ⟨z1, z_wk (A' := A0 + 2 + (C / 64 - g.2.2.2 / 64)) (B' := B0 + 12 + 2 * (C - g.2.2.2)) (by omega) (by omega) (z_tabIn (pc := 40) (tgt := 1017) hG dL_law_40 (by rw [h23]; decide) (by rw [h23]; decide) (by rw [h23]; rfl) rfl z2)⟩
  replace h := zif_f h23 h
  by_cases h24 : v = 24
  · replace h := zif_t h24 h
    obtain ⟨z1, z2⟩ := tS_24 hl0 hG hPx hS g h kf
    exact ⟨z1, z_wk (A' := A0 + 2 + (C / 64 - g.2.2.2 / 64)) (B' := B0 + 12 + 2 * (C - g.2.2.2)) (by omega) (by omega) (z_tabIn (pc := 40) (tgt := 1057) hG dL_law_40 (by rw [h24]; decide) (by rw [h24]; decide) (by rw [h24]; rfl) rfl z2)⟩
  replace h := zif_f h24 h
  by_cases h25 : v = 25
  · replace h := zif_t h25 h
    obtain ⟨z1, z2⟩ := tS_25 hl0 hG hPx hS g h kf
    exact ⟨z1, z_wk (A' := A0 + 2 + (C / 64 - g.2.2.2 / 64)) (B' := B0 + 12 + 2 * (C - g.2.2.2)) (by omega) (by omega) (z_tabIn (pc := 40) (tgt := 1097) hG dL_law_40 (by rw [h25]; decide) (by rw [h25]; decide) (by rw [h25]; rfl) rfl z2)⟩
  replace h := zif_f h25 h
  by_cases h26 : v = 26
  · replace h := zif_t h26 h
    obtain ⟨z1, z2⟩ := tS_26 hl0 hG hPx hS g h kf
    exact ⟨z1, z_wk (A' := A0 + 1 + (C / 64 - g.2.2.2 / 64)) (B' := B0 + 6 + 2 * (C - g.2.2.2)) (by omega) (by omega) (z_tabIn (pc := 40) (tgt := 1137) hG dL_law_40 (by rw [h26]; decide) (by rw [h26]; decide) (by rw [h26]; rfl) rfl z2)⟩
  replace h := zif_f h26 h
  by_cases h27 : v = 27
  · replace h := zif_t h27 h
    obtain ⟨z1, z2⟩ := tS_27 hl0 hG hPx hS g h kf
    exact ⟨z1, z_wk (A' := A0 + 3 + (C / 64 - g.2.2.2 / 64)) (B' := B0 + 18 + 2 * (C - g.2.2.2)) (by omega) (by omega) (z_tabIn (pc := 40) (tgt := 1177) hG dL_law_40 (by rw [h27]; decide) (by rw [h27]; decide) (by rw [h27]; rfl) rfl z2)⟩
  replace h := zif_f h27 h
  by_cases h28 : v = 28
  · replace h := zif_t h28 h
    obtain ⟨z1, z2⟩ := tS_28 hl0 hG hPx hS g h kf
    exact ⟨z1, z_wk (A' := A0 + 1 + (C / 64 - g.2.2.2 / 64)) (B' := B0 + 6 + 2 * (C - g.2.2.2)) (by omega) (by omega) (z_tabIn (pc := 40) (tgt := 1229) hG dL_law_40 (by rw [h28]; decide) (by rw [h28]; decide) (by rw [h28]; rfl) rfl z2)⟩
  replace h := zif_f h28 h
  by_cases h29 : v = 29
  · replace h := zif_t h29 h
    obtain ⟨z1, z2⟩ := tS_29 hl0 hG hPx hS g h kf
    exact ⟨z1, z_wk (A' := A0 + 0 + (C / 64 - g.2.2.2 / 64)) (B' := B0 + 0 + 2 * (C - g.2.2.2)) (by omega) (by omega) (z_tabIn (pc := 40) (tgt := 1257) hG dL_law_40 (by rw [h29]; decide) (by rw [h29]; decide) (by rw [h29]; rfl) rfl z2)⟩
  replace h := zif_f h29 h
  by_cases h30 : v = 30
  · replace h := zif_t h30 h
    obtain ⟨z1, z2⟩ := tS_30 hl0 hG hPx hS g h kf
    exact ⟨z1, z_wk (A' := A0 + 1 + (C / 64 - g.2.2.2 / 64)) (B' := B0 + 6 + 2 * (C - g.2.2.2)) (by omega) (by omega) (z_tabIn (pc := 40) (tgt := 1282) hG dL_law_40 (by rw [h30]; decide) (by rw [h30]; decide) (by rw [h30]; rfl) rfl z2)⟩
  replace h := zif_f h30 h
  by_cases h31 : v = 31
  · replace h := zif_t h31 h
    obtain ⟨z1, z2⟩ := tS_31 hl0 hG hPx hS g h kf
    exact ⟨z1, z_wk (A' := A0 + 2 + (C / 64 - g.2.2.2 / 64)) (B' := B0 + 12 + 2 * (C - g.2.2.2)) (by omega) (by omega) (z_tabIn (pc := 40) (tgt := 1350) hG dL_law_40 (by rw [h31]; decide) (by rw [h31]; decide) (by rw [h31]; rfl) rfl z2)⟩
  replace h := zif_f h31 h
  by_cases h32 : v = 32
  · replace h := zif_t h32 h
    obtain ⟨z1, z2⟩ := tS_32 hl0 hG hPx hS g h kf
    exact ⟨z1, z_wk (A' := A0 + 3 + (C / 64 - g.2.2.2 / 64)) (B' := B0 + 18 + 2 * (C - g.2.2.2)) (by omega) (by omega) (z_tabIn (pc := 40) (tgt := 1390) hG dL_law_40 (by rw [h32]; decide) (by rw [h32]; decide) (by rw [h32]; rfl) rfl z2)⟩
  replace h := zif_f h32 h
  by_cases h33 : v = 33
  · replace h := zif_t h33 h
    obtain ⟨z1, z2⟩ := tS_33 hl0 hG hPx hS g h kf
    exact ⟨z1, z_wk (A' := A0 + 1 + (C / 64 - g.2.2.2 / 64)) (B' := B0 + 6 + 2 * (C - g.2.2.2)) (by omega) (by omega) (z_tabIn (pc := 40) (tgt := 1430) hG dL_law_40 (by rw [h33]; decide) (by rw [h33]; decide) (by rw [h33]; rfl) rfl z2)⟩
  replace h := zif_f h33 h
  by_cases h34 : v = 34
  · replace h := zif_t h34 h
    obtain ⟨z1, z2⟩ := tS_34 hl0 hG hPx hS g h kf
    exact ⟨z1, z_wk (A' := A0 + 2 + (C / 64 - g.2.2.2 / 64)) (B' := B0 + 12 + 2 * (C - g.2.2.2)) (by omega) (by omega) (z_tabIn (pc := 40) (tgt := 1458) hG dL_law_40 (by rw [h34]; decide) (by rw [h34]; decide) (by rw [h34]; rfl) rfl z2)⟩
  replace h := zif_f h34 h
  by_cases h35 : v = 35
  · replace h := zif_t h35 h
    obtain ⟨z1, z2⟩ := tS_35 hl0 hG hPx hS g h kf
    exact ⟨z1, z_wk (A' := A0 + 0 + (C / 64 - g.2.2.2 / 64)) (B' := B0 + 0 + 2 * (C - g.2.2.2)) (by omega) (by omega) (z_tabIn (pc := 40) (tgt := 1498) hG dL_law_40 (by rw [h35]; decide) (by rw [h35]; decide) (by rw [h35]; rfl) rfl z2)⟩
  replace h := zif_f h35 h
  by_cases h36 : v = 36
  · replace h := zif_t h36 h
    obtain ⟨z1, z2⟩ := tS_36 hl0 hG hPx hS g h kf
    exact ⟨z1, z_wk (A' := A0 + 1 + (C / 64 - g.2.2.2 / 64)) (B' := B0 + 6 + 2 * (C - g.2.2.2)) (by omega) (by omega) (z_tabIn (pc := 40) (tgt := 1511) hG dL_law_40 (by rw [h36]; decide) (by rw [h36]; decide) (by rw [h36]; rfl) rfl z2)⟩
  replace h := zif_f h36 h
  by_cases h37 : v = 37
  · replace h := zif_t h37 h
    obtain ⟨z1, z2⟩ := tS_37 hl0 hG hPx hS g h kf
    exact ⟨z1, z_wk (A' := A0 + 0 + (C / 64 - g.2.2.2 / 64)) (B' := B0 + 0 + 2 * (C - g.2.2.2)) (by omega) (by omega) (z_tabIn (pc := 40) (tgt := 1551) hG dL_law_40 (by rw [h37]; decide) (by rw [h37]; decide) (by rw [h37]; rfl) rfl z2)⟩
  replace h := zif_f h37 h
  by_cases h38 : v = 38
  · replace h := zif_t h38 h
    obtain ⟨z1, z2⟩ := tS_38 hl0 hG hPx hS g h kf
    exact ⟨z1, z_wk (A' := A0 + 1 + (C / 64 - g.2.2.2 / 64)) (B' := B0 + 6 + 2 * (C - g.2.2.2)) (by omega) (by omega) (z_tabIn (pc := 40) (tgt := 1564) hG dL_law_40 (by rw [h38]; decide) (by rw [h38]; decide) (by rw [h38]; rfl) rfl z2)⟩
  replace h := zif_f h38 h
  by_cases h39 : v = 39
  · replace h := zif_t h39 h
    obtain ⟨z1, z2⟩ := tS_39 hl0 hG hPx hS g h kf
    exact ⟨z1, z_wk (A' := A0 + 2 + (C / 64 - g.2.2.2 / 64)) (B' := B0 + 12 + 2 * (C - g.2.2.2)) (by omega) (by omega) (z_tabIn (pc := 40) (tgt := 1620) hG dL_law_40 (by rw [h39]; decide) (by rw [h39]; decide) (by rw [h39]; rfl) rfl z2)⟩
  replace h := zif_f h39 h
  by_cases h40 : v = 40
  · replace h := zif_t h40 h
    obtain ⟨z1, z2⟩ := tS_40 hl0 hG hPx hS g h kf
    exact ⟨z1, z_wk (A' := A0 + 1 + (C / 64 - g.2.2.2 / 64)) (B' := B0 + 6 + 2 * (C - g.2.2.2)) (by omega) (by omega) (z_tabIn (pc := 40) (tgt := 1660) hG dL_law_40 (by rw [h40]; decide) (by rw [h40]; decide) (by rw [h40]; rfl) rfl z2)⟩
  replace h := zif_f h40 h
  by_cases h41 : v = 41
  · replace h := zif_t h41 h
    obtain ⟨z1, z2⟩ := tS_41 hl0 hG hPx hS g h kf
    exact ⟨z1, z_wk (A' := A0 + 1 + (C / 64 - g.2.2.2 / 64)) (B' := B0 + 6 + 2 * (C - g.2.2.2)) (by omega) (by omega) (z_tabIn (pc := 40) (tgt := 1700) hG dL_law_40 (by rw [h41]; decide) (by rw [h41]; decide) (by rw [h41]; rfl) rfl z2)⟩
  replace h := zif_f h41 h
  by_cases h42 : v = 42
  · replace h := zif_t h42 h
    obtain ⟨z1, z2⟩ := tS_42 hl0 hG hPx hS g h kf
    exact ⟨z1, z_wk (A' := A0 + 0 + (C / 64 - g.2.2.2 / 64)) (B' := B0 + 0 + 2 * (C - g.2.2.2)) (by omega) (by omega) (z_tabIn (pc := 40) (tgt := 1728) hG dL_law_40 (by rw [h42]; decide) (by rw [h42]; decide) (by rw [h42]; rfl) rfl z2)⟩
  replace h := zif_f h42 h
  by_cases h43 : v = 43
  · replace h := zif_t h43 h
    obtain ⟨z1, z2⟩ := tS_43 hl0 hG hPx hS g h kf
    exact ⟨z1, z_wk (A' := A0 + 2 + (C / 64 - g.2.2.2 / 64)) (B' := B0 + 12 + 2 * (C - g.2.2.2)) (by omega) (by omega) (z_tabIn (pc := 40) (tgt := 1741) hG dL_law_40 (by rw [h43]; decide) (by rw [h43]; decide) (by rw [h43]; rfl) rfl z2)⟩
  replace h := zif_f h43 h
  by_cases h44 : v = 44
  · replace h := zif_t h44 h
    obtain ⟨z1, z2⟩ := tS_44 hl0 hG hPx hS g h kf
    exact ⟨z1, z_wk (A' := A0 + 2 + (C / 64 - g.2.2.2 / 64)) (B' := B0 + 12 + 2 * (C - g.2.2.2)) (by omega) (by omega) (z_tabIn (pc := 40) (tgt := 1781) hG dL_law_40 (by rw [h44]; decide) (by rw [h44]; decide) (by rw [h44]; rfl) rfl z2)⟩
  replace h := zif_f h44 h
  by_cases h45 : v = 45
  · replace h := zif_t h45 h
    obtain ⟨z1, z2⟩ := tS_45 hl0 hG hPx hS g h kf
    exact ⟨z1, z_wk (A' := A0 + 2 + (C / 64 - g.2.2.2 / 64)) (B' := B0 + 12 + 2 * (C - g.2.2.2)) (by omega) (by omega) (z_tabIn (pc := 40) (tgt := 1821) hG dL_law_40 (by rw [h45]; decide) (by rw [h45]; decide) (by rw [h45]; rfl) rfl z2)⟩
  replace h := zif_f h45 h
  by_cases h46 : v = 46
  · replace h := zif_t h46 h
    obtain ⟨z1, z2⟩ := tS_46 hl0 hG hPx hS g h kf
    exact ⟨z1, z_wk (A' := A0 + 1 + (C / 64 - g.2.2.2 / 64)) (B' := B0 + 6 + 2 * (C - g.2.2.2)) (by omega) (by omega) (z_tabIn (pc := 40) (tgt := 1861) hG dL_law_40 (by rw [h46]; decide) (by rw [h46]; decide) (by rw [h46]; rfl) rfl z2)⟩
  replace h := zif_f h46 h
  by_cases h47 : v = 47
  · replace h := zif_t h47 h
    obtain ⟨z1, z2⟩ := tS_47 hl0 hG hPx hS g h kf
    exact ⟨z1, z_wk (A' := A0 + 0 + (C / 64 - g.2.2.2 / 64)) (B' := B0 + 0 + 2 * (C - g.2.2.2)) (by omega) (by omega) (z_tabIn (pc := 40) (tgt := 1889) hG dL_law_40 (by rw [h47]; decide) (by rw [h47]; decide) (by rw [h47]; rfl) rfl z2)⟩
  replace h := zif_f h47 h
  by_cases h48 : v = 48
  · replace h := zif_t h48 h
    obtain ⟨z1, z2⟩ := tS_48 hl0 hG hPx hS g h kf
    exact ⟨z1, z_wk (A' := A0 + 0 + (C / 64 - g.2.2.2 / 64)) (B' := B0 + 0 + 2 * (C - g.2.2.2)) (by omega) (by omega) (z_tabIn (pc := 40) (tgt := 1914) hG dL_law_40 (by rw [h48]; decide) (by rw [h48]; decide) (by rw [h48]; rfl) rfl z2)⟩
  replace h := zif_f h48 h
  obtain rfl := Option.some.inj h
  exact ⟨kf.1, z_wk (A' := A0 + (C / 64 - g.2.2.2 / 64)) (B' := B0 + 2 * (C - g.2.2.2)) (by omega) (by omega) (z_tabOut (pc := 40) (tgt := 1939) hG dL_law_40 (ztab_out (n := 48) (fun k hk => by
    match k, hk with
    | 0, _ => exact h0
    | 1, _ => exact h1
    | 2, _ => exact h2
    | 3, _ => exact h3
    | 4, _ => exact h4
    | 5, _ => exact h5
    | 6, _ => exact h6
    | 7, _ => exact h7
    | 8, _ => exact h8
    | 9, _ => exact h9
    | 10, _ => exact h10
    | 11, _ => exact h11
    | 12, _ => exact h12
    | 13, _ => exact h13
    | 14, _ => exact h14
    | 15, _ => exact h15
    | 16, _ => exact h16
    | 17, _ => exact h17
    | 18, _ => exact h18
    | 19, _ => exact h19
    | 20, _ => exact h20
    | 21, _ => exact h21
    | 22, _ => exact h22
    | 23, _ => exact h23
    | 24, _ => exact h24
    | 25, _ => exact h25
    | 26, _ => exact h26
    | 27, _ => exact h27
    | 28, _ => exact h28
    | 29, _ => exact h29
    | 30, _ => exact h30
    | 31, _ => exact h31
    | 32, _ => exact h32
    | 33, _ => exact h33
    | 34, _ => exact h34
    | 35, _ => exact h35
    | 36, _ => exact h36
    | 37, _ => exact h37
    | 38, _ => exact h38
    | 39, _ => exact h39
    | 40, _ => exact h40
    | 41, _ => exact h41
    | 42, _ => exact h42
    | 43, _ => exact h43
    | 44, _ => exact h44
    | 45, _ => exact h45
    | 46, _ => exact h46
    | 47, _ => exact h47
    | 48, _ => exact h48
    | k + 49, hk => omega)) rfl kf.2)⟩

/-- the script as the walk sees it -/
def zSc (x : zXx) (L : Nat) (xs : Nat → Int32) : Prop := match x with
  | (p, l, e, R, s, m, args, below, meth, c, D, ca, b0, ad0, n0, tg) => va_X (ad0 950) L xs s s.heap ∧ ad0 950 < s.heap.size ∧ ad0 950 < b0
section ZSl
variable {x : zXx} {cc : ByteArray} {nL : Nat} {own : String} {ret : Option FieldType} {F pc : Nat} {ls : List (Nat × Value)} {st : List Value} {dl : List zDs} {σ : zS} {A B : Nat}
theorem z_scl {L : Nat} {xs : Nat → Int32} (hG : zG x cc nL own ret) (hS : zSc x L xs) (hd : decode cc pc = .ok (.arraylength, 1))
    (kk : zK x F (pc + 1) ls (.int (nI L) :: st) dl σ A B) : zK x F pc ls (.ref 950 :: st) dl σ A B := by
  obtain ⟨p, l, e, R, s, m, args, below, meth, c, D, ca, b0, ad0, n0, tg⟩ := x
  obtain ⟨hx, hb, hml, hown, hts, hret, hlk, htab, hKs, hOs, hfl⟩ := hG
  obtain ⟨g1, g2, g3⟩ := hS
  intro ad H locs la cells slots h1 h2 h3 h4 h5 h6 h7 h8 h9 h10
  have e9 : ad 950 = ad0 950 := h1.hi 950 (by decide)
  have k2 := kk ad H locs la cells slots h1 h2 h3 h4 h5 h6 h7 h8 h9 h10
  show W p l e R s m args below meth c H locs cells slots _ (F0 m pc la (.ref (ad 950) :: st.map (zr ad)))
  rw [e9]
  exact va_slen hx hb g1 g2 (A := zA b0) (fun q => Nat.not_le.mpr g3 q) h5 hd k2
theorem z_irrL {i : Nat} {f : Nat → Int64} (hi : dl.length ≤ i) (k : zK x F pc ls st dl (zlr σ i f) A B) : zK x F pc ls st dl σ A B := by
  obtain ⟨p, l, e, R, s, m, args, below, meth, c, D, ca, b0, ad0, n0, tg⟩ := x
  intro ad H locs la cells slots h1 h2 h3 h4 h5 h6 h7 h8 h9 h10
  have hz : zws ad ca dl (zlr σ i f) = zws ad ca dl σ := by
    apply List.ext_getElem?
    intro j
    simp only [zws, List.getElem?_mapIdx]
    cases hj : dl[j]? with
    | none => rfl
    | some d =>
      have hjl := (List.getElem?_eq_some_iff.mp hj).1
      show some (ad j, zcell ad ca (zlr σ i f) j d) = some (ad j, zcell ad ca σ j d)
      rw [zcell_ne (σ := σ) (σ' := zlr σ i f) rfl (show (if j = i then f else σ.2.1 j) = σ.2.1 j from if_neg (by omega)) rfl]
  exact k ad H locs la cells slots h1 h2 (by rw [hz]; exact h3) (by rw [hz]; exact h4) h5 h6 h7 h8 h9 h10
/-- a constructor that rests on zPx -/
theorem z_specX {bytes : ByteArray} {maxL fr nc ns n index i A' B' : Nat} {y : MethodName} {rest : List Value} {dl' : List zDs} {σ' : zS} (hG : zG x cc nL own ret) (hPx : zPx x.2.2.2.2.1) (nn : Nat) (As : List Value) (hC : zCx (zl0 x) y (.code y bytes maxL none) fr nc ns (.ref i :: As) dl σ (.inl none, dl', σ')) (hy : zY y bytes maxL none n) (hy1 : y.name = "<init>") (hs : Cond.instanceMethod y ∈ zT) (hl : Cond.methodLink own index y ∈ zT) (hd : decode cc pc = .ok (.invokespecial index, 3)) (hn : As.length = n) (hF : fr + 1 ≤ F)
    (hnn : nn ≤ dl.length) (hle : dl.length ≤ dl'.length) (hst : rest.all (zok nn) = true) (hls : ls.all (fun q => zok nn q.2) = true) (hA : A = A' + nc) (hB : B = B' + ns) (hW : (rest.map fun v => v.category).sum ≤ 8) (hstk : st = As.reverse ++ .ref i :: rest)
    (kk : zK x F (pc + 3) ls rest dl' σ' A' B') : zK x F pc ls st dl σ A B := by
  subst hstk
  refine z_after (v := none) hG hnn hle hst hls hA hB kk ?_
  obtain ⟨p, l, e, R, s, m, args, below, meth, c, D, ca, b0, ad0, n0, tg⟩ := x
  obtain ⟨hx, hb, hml, hown, hts, hret, hlk, htab, hKs, hOs, hfl⟩ := hG
  intro ad H locs la cells slots h1 h3 h4 h5 h7 h8 h6 h9 h10
  exact ⟨_, vx_ofRun (va_runI (As := As.map (zr ad)) ⟨hx, hb, rfl, hown, hts⟩ (vx_toMet (hC D ca b0 ad) (fun E st t h => by obtain ⟨⟨ad', h1, -⟩, -⟩ := h; cases h1)) ⟨zC_callB hts hy hl hF h9 h10, hy1, hts _ hs⟩ ⟨zCx_blind, fun U hU hW => ⟨rfl, ⟨⟨by rw [hU]; exact h3, va_K.moved hW.alike hKs, h4, by rw [hU]; exact ((hOs.1.kept h5.1 h5.2.1).moved hW.alike).ad h1.hi⟩, (hOs.2.warm hW).ad h1.hi⟩, zPx.warm hW hPx⟩⟩ rfl (by rw [List.length_map]; exact hn) h6 (by rw [List.map_append, List.map_reverse]; rfl) (lv_room (by rw [List.map_map]; exact Nat.le_trans (Nat.le_of_eq (congrArg List.sum (List.map_congr_left fun v _ => zr_cat ad v))) hW)) hd ⟨h7, h8⟩)⟩
end ZSl
theorem z_cmp6 {L i : Nat} (hL : L ≤ 3072) (hi : i ≤ 4000) : nI L - (6 : Int32) < nI i ↔ L < i + 6 := by
  by_cases h : 6 ≤ L
  · rw [show (6 : Int32) = nI 6 from rfl]
    have e : nI L - nI 6 = nI (L - 6) := by
      have e2 : nI L = nI (L - 6) + nI 6 := by
        show Int32.ofNat L = Int32.ofNat (L - 6) + Int32.ofNat 6
        rw [← Int32.ofNat_add]
        congr 1
        omega
      rw [e2, Int32.add_sub_cancel]
    rw [e, Int32.lt_iff_toInt_lt, nI_int (by omega), nI_int (by omega)]
    omega
  · have h2 : ∀ L, L < 6 → nI L - (6 : Int32) < 0 := by decide
    have h3 := Int32.lt_of_lt_of_le (h2 L (by omega)) (Int32.not_lt.mp (nI_nn (n := i) (by omega)))
    exact ⟨fun _ => by omega, fun _ => h3⟩
theorem law_loop {Iv : Nat → zS → Prop} {C L : Nat} (hlen : ∀ j g, Iv j g → g.2.2.2 ≤ C) (hstep : ∀ (j : Nat) (a : Nat → Int32) (g : zS), 6 * j + 6 ≤ L → Iv j g → ∃ r, nSt (a 0 &&& 63) a g = some r ∧ Iv (j + 1) r) (hL : L ≤ 3072) (xs : Nat → Int32) : ∀ (rem j : Nat) (g : zS), Iv j g → L < 6 * (j + rem) + 6 → 6 * j ≤ 3078 → ∃ gf, ∀ x : zXx, (zl0 x).flags = flags0 → zG x cL_law 7 RL ret → zPx x.2.2.2.2.1 → zSc x L xs → ztg x = (.inl (some (.int 1)), zD, gf) → zK x 66 23 [(0, .ref 950), (1, .ref 0), (2, .ref 42), (3, .ref 72), (4, .int (nI (6 * j)))] [] zD g (3 * rem + (C / 64 - g.2.2.2 / 64)) (18 * rem + 2 * (C - g.2.2.2)) := by
  have exits : ∀ (j A B : Nat) (g : zS), L < 6 * j + 6 → 6 * j ≤ 3078 → ∀ x : zXx, (zl0 x).flags = flags0 → zG x cL_law 7 RL ret → zSc x L xs → ztg x = (.inl (some (.int 1)), zD, g) → zK x 66 23 [(0, .ref 950), (1, .ref 0), (2, .ref 42), (3, .ref 72), (4, .int (nI (6 * j)))] [] zD g A B := by
    intro j A B g h1 h2 x hl0 hG hS htg
    refine z_iload (pc := 23) hG 4 rfl dL_law_23 ?_
    refine z_aload_n (pc := 25) hG 0 rfl rfl dL_law_25 ?_
    refine z_scl (pc := 26) hG hS dL_law_26 ?_
    refine z_bipush (pc := 27) hG kb_6 dL_law_27 ?_
    refine z_isub (pc := 29) hG dL_law_29 ?_
    refine z_icmp_gt (pc := 30) (tgt := 1945) hG dL_law_30 rfl (fun hc => ?_) (fun hc => ?_)
    · refine z_iconst (pc := 1945) hG kc_1 dL_law_1945 ?_
      exact z_iret (pc := 1946) (ty := .boolean) hG rfl rfl htg dL_law_1946
    · exact (hc ((z_cmp6 hL (by omega)).mpr h1)).elim
  intro rem
  induction rem with
  | zero =>
    intro j g hI h1 h2
    exact ⟨g, fun x hl0 hG hPx hS htg => exits j _ _ g h1 h2 x hl0 hG hS htg⟩
  | succ rem ih =>
    intro j g hI h1 h2
    by_cases hend : L < 6 * j + 6
    · exact ⟨g, fun x hl0 hG hPx hS htg => exits j _ _ g hend h2 x hl0 hG hS htg⟩
    · obtain ⟨r, hr, hIr⟩ := hstep j (fun k => xs (6 * j + k)) g (by omega) hI
      obtain ⟨gf, hgf⟩ := ih (j + 1) r hIr (by omega) (by omega)
      refine ⟨gf, fun x hl0 hG hPx hS htg => ?_⟩
      have k3 := hgf x hl0 hG hPx hS htg
      have hSc : zScr x (nI (6 * j)) (fun k => xs (6 * j + k)) := by
        obtain ⟨p, l, e, R, s, m, args, below, meth, c, D, ca, b0, ad0, n0, tg⟩ := x
        refine ⟨L, xs, hS.1, hS.2.1, hS.2.2, fun k hk => ?_⟩
        have e : nI (6 * j) + nI k = nI (6 * j + k) := (Int32.ofNat_add (6 * j) k).symm
        rw [e, nI_cl (by omega)]
        refine ⟨?_, rfl⟩
        rintro (q | q)
        · exact nI_nn (by omega) q
        · rw [nI_cl (by omega)] at q
          omega
      have k4 : zK x 66 1939 [(0, .ref 950), (1, .ref 0), (2, .ref 42), (3, .ref 72), (4, .int (nI (6 * j)))] [] zD r (3 * rem + (C / 64 - r.2.2.2 / 64)) (18 * rem + 2 * (C - r.2.2.2)) := by
        refine z_iinc (pc := 1939) (ls' := [(4, .int (nI (6 * (j + 1)))), (0, .ref 950), (1, .ref 0), (2, .ref 42), (3, .ref 72)]) hG 4 rfl [0, 1, 2, 3, 4] (by show nI (6 * j) + Int32.ofInt 6 = _; rw [show Int32.ofInt 6 = Int32.ofNat 6 from by decide]; exact (Int32.ofNat_add (6 * j) 6).symm) (by decide) rfl dL_law_1939 ?_
        refine z_goto (pc := 1942) (tgt := 23) hG dL_law_1942 rfl ?_
        refine z_sub (ls' := [(0, .ref 950), (1, .ref 0), (2, .ref 42), (3, .ref 72), (4, .int (nI (6 * (j + 1))))]) [1, 2, 3, 4, 0] rfl ?_
        exact k3
      have k5 := (law_tab hl0 hG hPx hSc g hr ⟨hlen (j + 1) r hIr, k4⟩).2
      have e3 : 3 * (rem + 1) = 3 * rem + 3 := by omega
      have e18 : 18 * (rem + 1) = 18 * rem + 18 := by omega
      rw [e3, e18]
      refine z_iload (pc := 23) hG 4 rfl dL_law_23 ?_
      refine z_aload_n (pc := 25) hG 0 rfl rfl dL_law_25 ?_
      refine z_scl (pc := 26) hG hS dL_law_26 ?_
      refine z_bipush (pc := 27) hG kb_6 dL_law_27 ?_
      refine z_isub (pc := 29) hG dL_law_29 ?_
      refine z_icmp_gt (pc := 30) (tgt := 1945) hG dL_law_30 rfl (fun hc => ?_) (fun hc => ?_)
      · exact (hend ((z_cmp6 hL (by omega)).mp hc)).elim
      · refine z_aload_n (pc := 33) hG 0 rfl rfl dL_law_33 ?_
        refine z_iload (pc := 34) hG 4 rfl dL_law_34 ?_
        refine z_scr (pc := 36) hG hSc 0 (by decide) (z_i0 _) dL_law_36 ?_
        refine z_bipush (pc := 37) hG kb_63 dL_law_37 ?_
        refine z_iand (pc := 39) hG dL_law_39 ?_
        exact k5


theorem w_spec_ca {s : State} {args : Array Value} {ty : FieldType} (h : (Cond.arrayClass ty).before args s = true) (hp : ∀ cA : ClassId, s.vm.findClass ("[" ++ ty.toString) = some cA → va_RA s cA ty) : ∃ cA, ArrOfT s cA ty ∧ va_RA s cA ty := by
  obtain ⟨c, k, comp, h1, h2, h3⟩ := Cond.arrayClass_spec h
  exact ⟨c, fun n z => ⟨fun k h => (by cases h), k, h2, comp, h3⟩, hp c h1⟩
theorem z_toZ {p : Program} {l : Launch} {e : Env} {s : State} {m : MethodId} {below : List Frame} {meth : Method} {c : Code} {b : Nat} {H : Heap} {locs : List Loc} {cells slots : Nat} {D : va_G} {ca : Nat → ClassId} {ad0 : Nat → Nat} {gf : zS} {g : JFrame} (k : W p l e room_1 s m #[Value.ref b] below meth c H locs cells slots (vx_MQ below (zQc D ca s.heap.size ad0 0 (.inl (some (.int 1)), zD, gf)) (zXc D ca s.heap.size ad0 0 (.inl (some (.int 1)), zD, gf)) #[Value.ref b] s room_1.cells room_1.slots (zA s.heap.size)) g) : W p l e room_1 s m #[Value.ref b] below meth c H locs cells slots (lw_Z below #[Value.ref b] s) g := by
  intro T hT X
  obtain ⟨t, a1, o, h1, h2, h3⟩ := k T hT X
  refine ⟨t, a1, o, h1, h2, ?_⟩
  rcases h3 with ⟨⟨⟨v, ad', hv, ho, -⟩, -⟩, L, ⟨⟨v2, hv2⟩, hW, hf⟩, hL⟩ | ⟨q, ho, E, ce, L, ⟨⟨ad', hv, -⟩, -⟩, -⟩
  · cases hv
    refine ⟨ho, ⟨v2, hv2⟩, hW, ?_⟩
    obtain ⟨f1, f2, f3, f4, f5, f6⟩ := hf
    refine ⟨f1, f2, f3, f4, f5, fun a c hc => ?_⟩
    obtain ⟨c', g1, g2, g3, g4⟩ := f6 a c hc
    refine ⟨c', g1, g2, g3, fun i _ => g4 i (fun hm => ?_)⟩
    have h9 : s.heap.size ≤ a := hL _ hm
    have h10 := (Array.getElem?_eq_some_iff.mp hc).1
    omega
  · cases hv


set_option maxHeartbeats 4000000 in
set_option maxRecDepth 100000 in
theorem whole_walk {Iv : Nat → zS → Prop} {L : Nat} (hlen : ∀ j g, Iv j g → g.2.2.2 ≤ 2097152) (hstep : ∀ (j : Nat) (a : Nat → Int32) (g : zS), 6 * j + 6 ≤ L → Iv j g → ∃ r, nSt (a 0 &&& 63) a g = some r ∧ Iv (j + 1) r) {σl : zS} (hlay : nX11_lays (zi (zi (zi (zi (zi (zi (zi (zi (zi (zi (zi (zi zS0 3 6 (-1 : Int32)) 11 6 (-1 : Int32)) 0 11 (0 : Int32)) 0 12 (-1 : Int32)) 42 5 (-1 : Int32)) 42 19 (-1 : Int32)) 58 ((0 : Int32)).toNatClampNeg (625 : Int32)) 58 ((1 : Int32)).toNatClampNeg (125 : Int32)) 58 ((2 : Int32)).toNatClampNeg (25 : Int32)) 58 ((3 : Int32)).toNatClampNeg (5 : Int32)) 58 ((4 : Int32)).toNatClampNeg (1 : Int32)) 42 29 (-1 : Int32)) = some σl) (hIv : Iv 0 (zlr σl 72 (fun _ => 0))) (h64 : σl.2.2.2 = 64)
    {p : Program} {e : Env} {s : State} {m : MethodId} {below : List Frame} {meth : Method} {c : Code} (l : Launch) (hflags : l.flags = flags0) (hhtab : ∀ z ∈ c.exceptionTable.toList, False) {b : Nat} {xs : Nat → Int32} (hL : L ≤ 3072) (C0 : lw_At p s m meth c b L xs) : W p l e room_1 s m #[Value.ref b] below meth c s.heap [] 0 0 (lw_Z below #[Value.ref b] s) (entryFrame m ([Value.ref b] : List Value).toArray 7) := by
  obtain ⟨hx, hb, hr, hml, hown, hts0, hX, hbl, hlocks, hgv⟩ := C0
  have hgf : ∀ w ∈ flatC zGv, w.before #[Value.ref b] s = true := flat_of_before _ hgv
  have hts : ∀ w ∈ zT, w.before #[Value.ref b] s = true := fun w hw => hts0 w (List.mem_filter.mp hw).1
  have hA : ∀ a : Nat, a < s.heap.size → ¬ zA s.heap.size a := fun a ha q => absurd ha (Nat.not_lt.mpr q)
  -- the array classes
  obtain ⟨ci, hi1, hi2⟩ := w_spec_ca (ty := .int) (hts _ wa_int) (fun _ h => h)
  obtain ⟨cb, hb1, hb2⟩ := w_spec_ca (ty := .byte) (hts _ wa_byte) (fun _ h => h)
  obtain ⟨cz, hz1, hz2⟩ := w_spec_ca (ty := .boolean) (hts _ wa_boolean) (fun _ h => h)
  obtain ⟨cl, hl1, hl2⟩ := w_spec_ca (ty := .long) (hts _ wa_long) (fun _ h => h)
  -- the classes
  obtain ⟨c0, i0, hKn0⟩ := u_known (C := RX0) (T := TX0) (N := 8) (n := 8) hts inX0 (hts _ w176)
  obtain ⟨c1, i1, hKn1⟩ := u_known (C := RX2) (T := TX2) (N := 6) (n := 6) hts inX2 (hts _ w233)
  obtain ⟨c2, i2, hKn2⟩ := u_known (C := RX4) (T := TX4) (N := 5) (n := 5) hts inX4 (hts _ w258)
  obtain ⟨c3, i3, hKn3⟩ := u_known (C := RX5) (T := TX5) (N := 7) (n := 7) hts inX5 (hts _ w145)
  obtain ⟨c4, i4, hKn4⟩ := u_known (C := RX6) (T := TX6) (N := 11) (n := 11) hts inX6 (hts _ w53)
  obtain ⟨c5, i5, hKn5⟩ := u_known (C := RX7) (T := TX7) (N := 5) (n := 5) hts inX7 (hts _ w123)
  obtain ⟨c6, i6, hKn6⟩ := u_known (C := RX8) (T := TX8) (N := 4) (n := 4) hts inX8 (hts _ w207)
  obtain ⟨c7, i7, hKn7⟩ := u_known (C := RX9) (T := TX9) (N := 2) (n := 2) hts inX9 (hts _ w37)
  obtain ⟨c8, i8, hKn8⟩ := u_known (C := RX10) (T := TX10) (N := 13) (n := 13) hts inX10 (hts _ w29)
  obtain ⟨c9, i9, hKn9⟩ := u_known (C := RX11) (T := TX11) (N := 47) (n := 47) hts inX11 (hts _ w1430)
  obtain ⟨D, hKc⟩ : ∃ D : va_G, ∀ (k : Nat) (q : vw_C), zcls[k]? = some q → u_Kn s q.1 q.2.1 q.2.2 (D.1 k) (D.2 k) := by
    refine ⟨(fun k => match k with | 0 => c0 | 1 => c1 | 2 => c2 | 3 => c3 | 4 => c4 | 5 => c5 | 6 => c6 | 7 => c7 | 8 => c8 | 9 => c9 | _ => c0, fun k => match k with | 0 => i0 | 1 => i1 | 2 => i2 | 3 => i3 | 4 => i4 | 5 => i5 | 6 => i6 | 7 => i7 | 8 => i8 | 9 => i9 | _ => i0), ?_⟩
    intro k q hq
    match k, hq with
    | 0, hq => cases hq; exact hKn0
    | 1, hq => cases hq; exact hKn1
    | 2, hq => cases hq; exact hKn2
    | 3, hq => cases hq; exact hKn3
    | 4, hq => cases hq; exact hKn4
    | 5, hq => cases hq; exact hKn5
    | 6, hq => cases hq; exact hKn6
    | 7, hq => cases hq; exact hKn7
    | 8, hq => cases hq; exact hKn8
    | 9, hq => cases hq; exact hKn9
    | k + 10, hq => cases hq
  obtain ⟨ca, hca⟩ : ∃ ca : Nat → ClassId, ca 0 = ci ∧ ca 1 = cb ∧ ca 2 = cz ∧ ca 3 = cl := ⟨fun k => match k with | 0 => ci | 1 => cb | 2 => cz | _ => cl, rfl, rfl, rfl, rfl⟩
  obtain ⟨ca0, ca1, ca2, ca3⟩ := hca
  have hK : va_K D zcls (ztys ca) s := by
    refine ⟨hKc, fun k q hq => ?_⟩
    match k, hq with
    | 0, hq => cases hq; rw [ca0]; exact ⟨hi1, hi2⟩
    | 1, hq => cases hq; rw [ca1]; exact ⟨hb1, hb2⟩
    | 2, hq => cases hq; rw [ca2]; exact ⟨hz1, hz2⟩
    | 3, hq => cases hq; rw [ca3]; exact ⟨hl1, hl2⟩
    | k + 4, hq => cases hq
  -- what never changes
  obtain ⟨rK, rV, hRS, hRe⟩ := vk_Sof (tm := fun i => Term.string "EditMender$Reader" (zrI.getD i 0)) (len := slen) (byt := sbyt) (N := 9) (A := zA s.heap.size) gv_hN (fun i hi => hgf _ (gv_R1 i hi)) (fun i hi => hgf _ (gv_R2 i hi)) (fun i hi => hgf _ (gv_R3 i hi)) (fun i hi => hgf _ (gv_R4 i hi)) (fun i hi j hj => hgf _ (gv_R5 i hi j hj)) (fun i j hi hj hne => (Nat.lt_or_gt_of_ne hne).imp (fun h => hgf _ (gv_R6 j hj i h)) (fun h => hgf _ (gv_R6 i hi j h))) hA
  obtain ⟨mK, mV, hMS, hMe⟩ := vk_Sof (tm := fun i => Term.string "EditMenderModel" (zmI.getD i 0)) (len := slen) (byt := sbyt) (N := 9) (A := zA s.heap.size) gv_hN (fun i hi => hgf _ (gv_M1 i hi)) (fun i hi => hgf _ (gv_M2 i hi)) (fun i hi => hgf _ (gv_M3 i hi)) (fun i hi => hgf _ (gv_M4 i hi)) (fun i hi j hj => hgf _ (gv_M5 i hi j hj)) (fun i j hi hj hne => (Nat.lt_or_gt_of_ne hne).imp (fun h => hgf _ (gv_M6 j hj i h)) (fun h => hgf _ (gv_M6 i hi j h))) hA
  obtain ⟨tw, htw, hTw⟩ := va_Tof (s := s) (args := #[Value.ref b]) (tm := Term.static "EditMender$Family" "WITH" "[J") (ty := .long) (N := 6) (f := fun j => .long (zwith.getD j 0)) (A := zA s.heap.size) (by decide) (hgf _ (by decide +kernel)) (va_eqt (hgf _ (by decide +kernel))) (fun j hj => va_eqtl (hgf _ ((by decide +kernel : ∀ j, j < 6 → Cond.eq (.elem (Term.static "EditMender$Family" "WITH" "[J") (.int (Int32.ofNat j))) (.long (zwith.getD j 0)) ∈ flatC zGv) j hj))) hA
  have hZw : va_Z "EditMender$Family" "WITH" "[J" (.ref tw) (zA s.heap.size) s s.heap := va_Zref (hts0 _ (by decide +kernel)) (hts0 _ (by decide +kernel)) htw hA
  have hZc : va_Z "java/lang/String" "COMPACT_STRINGS" "Z" (.int 1) (zA s.heap.size) s s.heap := va_Zof (hts0 _ (by decide +kernel)) (hts0 _ (by decide +kernel)) (va_eqi (hgf _ (by decide +kernel))) hA
  have hZs : va_Zq "jdk/internal/util/Preconditions" "SIOOBE_FORMATTER" "Ljava/util/function/BiFunction;" (zA s.heap.size) s s.heap := va_Zqof (hts0 _ (by decide +kernel)) (hts0 _ (by decide +kernel)) (hgf _ (by decide +kernel)) hA
  obtain ⟨fq, hfq⟩ : ∃ fq : Nat, va_Z "jdk/internal/util/Preconditions" "SIOOBE_FORMATTER" "Ljava/util/function/BiFunction;" .null (zA s.heap.size) s s.heap ∨ va_Z "jdk/internal/util/Preconditions" "SIOOBE_FORMATTER" "Ljava/util/function/BiFunction;" (.ref fq) (zA s.heap.size) s s.heap := by
    rcases hZs with h | ⟨t, h⟩
    · exact ⟨0, Or.inl h⟩
    · exact ⟨t, Or.inr h⟩
  have hT1 : vx_Zq Bundle.tN "UNASSIGNED_STACK" Bundle.steD (zA s.heap.size) s s.heap := vx_Zqof (hts0 _ (by decide +kernel)) (hts0 _ (by decide +kernel)) (hgf _ (by decide +kernel)) hA
  have hT2 : vx_Zq Bundle.tN "SUPPRESSED_SENTINEL" Bundle.listD (zA s.heap.size) s s.heap := vx_Zqof (hts0 _ (by decide +kernel)) (hts0 _ (by decide +kernel)) (hgf _ (by decide +kernel)) hA
  have hDc : zDc s := ⟨fun x hx => va_any rfl (hts0 _ ((by decide +kernel : ∀ x ∈ zdcl, Cond.declares x ∈ lw_tbl) x hx)), fun E hE => va_any rfl (by
    have h9 := (by decide +kernel : ∀ E ∈ zexs, Cond.castable E E ∈ lw_tbl) E hE
    exact hts0 _ h9)⟩
  have hPx : zPx s := ⟨fun E hE E' hE' hne => va_Nc.of (hgf _ ((by decide +kernel : ∀ E ∈ zexs, ∀ E' ∈ zexs, E ≠ E' → Cond.not (.castable E E') ∈ flatC zGv) E hE E' hE' hne)), fun w hw => va_Nw.of (by revert w; decide) (hts0 _ ((by decide +kernel : ∀ w ∈ znst, w ∈ lw_tbl) w hw))⟩
  obtain ⟨ad0, had⟩ : ∃ ad0 : Nat → Nat, (∀ i, i < 9 → ad0 (900 + i) = rK i) ∧ (∀ i, i < 9 → ad0 (920 + i) = rV i) ∧ (∀ i, i < 9 → ad0 (910 + i) = mK i) ∧ (∀ i, i < 9 → ad0 (930 + i) = mV i) ∧ ad0 940 = fq ∧ ad0 950 = b := by
    refine ⟨fun i => if i = 950 then b else if i = 940 then fq else if i < 910 then rK (i - 900) else if i < 920 then mK (i - 910) else if i < 930 then rV (i - 920) else mV (i - 930), ?_, ?_, ?_, ?_, rfl, rfl⟩
    · intro i hi
      show (if 900 + i = 950 then b else if 900 + i = 940 then fq else if 900 + i < 910 then rK (900 + i - 900) else _) = rK i
      rw [if_neg (by omega), if_neg (by omega), if_pos (by omega), show 900 + i - 900 = i by omega]
    · intro i hi
      show (if 920 + i = 950 then b else if 920 + i = 940 then fq else if 920 + i < 910 then _ else if 920 + i < 920 then _ else if 920 + i < 930 then rV (920 + i - 920) else _) = rV i
      rw [if_neg (by omega), if_neg (by omega), if_neg (by omega), if_neg (by omega), if_pos (by omega), show 920 + i - 920 = i by omega]
    · intro i hi
      show (if 910 + i = 950 then b else if 910 + i = 940 then fq else if 910 + i < 910 then _ else if 910 + i < 920 then mK (910 + i - 910) else _) = mK i
      rw [if_neg (by omega), if_neg (by omega), if_neg (by omega), if_pos (by omega), show 910 + i - 910 = i by omega]
    · intro i hi
      show (if 930 + i = 950 then b else if 930 + i = 940 then fq else if 930 + i < 910 then _ else if 930 + i < 920 then _ else if 930 + i < 930 then _ else mV (930 + i - 930)) = mV i
      rw [if_neg (by omega), if_neg (by omega), if_neg (by omega), if_neg (by omega), if_neg (by omega), show 930 + i - 930 = i by omega]
  obtain ⟨ad1, ad2, ad3, ad4, ad5, ad6⟩ := had
  have hsx : ∀ {K V K2 V2 : Nat → Nat}, (∀ i, i < 9 → K2 i = K i) → (∀ i, i < 9 → V2 i = V i) → vk_S 9 slen sbyt K V (zA s.heap.size) s s.heap → vk_S 9 slen sbyt K2 V2 (zA s.heap.size) s s.heap := by
    intro K V K2 V2 h1 h2 h
    refine ⟨fun i hi => ?_, fun i j hi hj hij => ?_⟩
    · rw [h1 i hi, h2 i hi]
      exact h.1 i hi
    · rw [h1 i hi, h1 j hj] at hij
      exact h.2 i j hi hj hij
  have hO : zO s.heap.size ad0 s s.heap := ⟨Nat.le_refl _, hT1, hT2, ⟨tw, hZw, hTw⟩, hsx ad1 ad2 hRS, hsx ad3 ad4 hMS, hZc, by rw [ad5]; exact hfq, hDc⟩
  have hRs : zRs ad0 s := by
    have hr1 : ∀ i, i < 9 → ∀ tx : String, (Cond.stringRef "EditMender$Reader" (zrI.getD i 0) tx).before #[Value.ref b] s = true → vk_R "EditMender$Reader" (zrI.getD i 0) tx (ad0 (900 + i)) s := fun i hi tx h => by
      rw [ad1 i hi]
      exact vk_R.of h (hRe i hi)
    have hr2 : ∀ i, i < 9 → ∀ tx : String, (Cond.stringRef "EditMenderModel" (zmI.getD i 0) tx).before #[Value.ref b] s = true → vk_R "EditMenderModel" (zmI.getD i 0) tx (ad0 (910 + i)) s := fun i hi tx h => by
      rw [ad3 i hi]
      exact vk_R.of h (hMe i hi)
    intro q hq
    have hw : ∀ q ∈ zrefs, Cond.stringRef q.1 q.2.1 q.2.2.1 ∈ lw_tbl := by decide +kernel
    have hcs : ∀ q ∈ zrefs, (∃ i, i < 9 ∧ q = ("EditMender$Reader", zrI.getD i 0, q.2.2.1, 900 + i)) ∨ (∃ i, i < 9 ∧ q = ("EditMenderModel", zmI.getD i 0, q.2.2.1, 910 + i)) := by decide +kernel
    have hb9 := hts0 _ (hw q hq)
    rcases hcs q hq with ⟨i, hi, he⟩ | ⟨i, hi, he⟩
    · rw [he] at hb9 ⊢
      exact hr1 i hi _ hb9
    · rw [he] at hb9 ⊢
      exact hr2 i hi _ hb9
  obtain ⟨gf, hgf9⟩ := law_loop (C := 2097152) hlen hstep hL xs 513 0 (zlr σl 72 (fun _ => 0)) hIv (by omega) (by omega)
  refine z_toZ (D := D) (ca := ca) (ad0 := ad0) (gf := gf) ?_
  have hG : zG (p, l, e, room_1, s, m, #[Value.ref b], below, meth, c, D, ca, s.heap.size, ad0, 0, (.inl (some (.int 1)), zD, gf)) cL_law 7 RL ret := ⟨hx, hb, hml, hown, hts, hr, hlocks, hhtab, hK, ⟨hO, hRs⟩, hflags⟩
  generalize hxe : ((p, l, e, room_1, s, m, #[Value.ref b], below, meth, c, D, ca, s.heap.size, ad0, 0, (.inl (some (.int 1)), zD, gf)) : zXx) = x at hG
  have hl0 : (zl0 x).flags = flags0 := by rw [← hxe]; exact hflags
  have hPx9 : zPx x.2.2.2.2.1 := by rw [← hxe]; exact hPx
  have hS9 : zSc x L xs := by
    rw [← hxe]
    exact ⟨by rw [ad6]; exact hX, by rw [ad6]; exact hbl, by rw [ad6]; exact hbl⟩
  have htg : ztg x = (.inl (some (.int 1)), zD, gf) := by rw [← hxe]; rfl
  have k9 := hgf9 x hl0 hG hPx9 hS9 htg
  have walk : zK x 66 0 [(0, .ref 950)] [] zE_0 zS0 34379 4366059 := by
    refine z_new (A' := 34378) (B' := 4366046) (fl := [(3, 0), (3, 0), (3, 0), (3, 0), (3, 0), (3, 0), (3, 0), (3, 0), (3, 0), (3, 0), (3, 0), (0, 0), (0, 0)]) (pc := 0) hG zc_X10 inX10 tyX10 tyX10_ok w28 w29 w1 (i := 0) rfl (by decide) rfl (fun _ => rfl) rfl (by decide +kernel) rfl rfl (dl' := zE_1) rfl rfl rfl dL_law_0 ?_
    refine z_dup (pc := 3) hG rfl dL_law_3 ?_
    refine z_specX (A' := 34337) (B' := 4364124) (rest := [.ref 0]) (pc := 4) hG hPx9 1 [] (ti_X10_init_0 hl0) zy_X10_init rfl w31 w30 dL_law_4 rfl (Nat.le_of_ble_eq_true rfl) (by decide +kernel) (by decide +kernel) rfl rfl rfl rfl (Nat.le_of_ble_eq_true rfl) rfl ?_
    refine z_astore_n (pc := 7) (ls' := [(1, .ref 0), (0, .ref 950)]) hG [0, 1] rfl (by decide) rfl dL_law_7 ?_
    refine z_new (A' := 34336) (B' := 4364077) (fl := [(0, 0), (3, 0), (0, 0), (0, 0), (0, 0), (0, 0), (0, 0), (0, 0), (0, 0), (0, 0), (3, 0), (3, 0), (3, 0), (3, 0), (3, 0), (3, 0), (0, 0), (0, 0), (0, 0), (0, 0), (3, 0), (3, 0), (3, 0), (3, 0), (3, 0), (3, 0), (3, 0), (3, 0), (3, 0), (0, 0), (3, 0), (3, 0), (0, 0), (3, 0), (3, 0), (3, 0), (0, 0), (3, 0), (3, 0), (3, 0), (3, 0), (3, 0), (0, 0), (3, 0), (3, 0), (3, 0), (0, 0)]) (pc := 8) hG zc_X11 inX11 tyX11 tyX11_ok w1429 w1430 w10 (i := 42) (by decide +kernel) (by decide) (by decide +kernel) (fun _ => rfl) rfl (by decide +kernel) rfl rfl (dl' := zE_96) rfl rfl rfl dL_law_8 ?_
    refine z_dup (pc := 11) hG rfl dL_law_11 ?_
    refine z_spec (A' := 34307) (B' := 4203411) (rest := [.ref 42]) (pc := 12) hG 43 [] (ti_X11_init_42 hl0 hlay) zy_X11_init rfl w1432 w1431 dL_law_12 rfl (Nat.le_of_ble_eq_true rfl) (by decide +kernel) (by decide +kernel) rfl rfl rfl rfl (Nat.le_of_ble_eq_true rfl) rfl ?_
    refine z_astore_n (pc := 15) (ls' := [(2, .ref 42), (1, .ref 0), (0, .ref 950)]) hG [0, 1, 2] rfl (by decide) rfl dL_law_15 ?_
    refine z_irrL (i := 72) (f := fun _ => 0) (Nat.le_of_eq zDm_n) ?_
    refine z_iconst (pc := 16) hG kc_1 dL_law_16 ?_
    refine z_newa (A' := 34306) (B' := 4203410) (atype := .long) (t := 3) (N := 1) (z := (1, .inr (.inl (fun _ => 0)))) (pc := 17) hG wa_long rfl (fun _ => rfl) rfl (fun _ _ => Iff.rfl) (i := 72) zDm_n (by decide) (by decide +kernel) (fun _ _ => rfl) (fun _ => rfl) (by decide) rfl (Nat.le_of_ble_eq_true rfl) rfl rfl (dl' := zD) (dsc := .inr (3, 1)) (by decide +kernel) rfl rfl dL_law_17 ?_
    refine z_astore_n (pc := 19) (ls' := [(3, .ref 72), (2, .ref 42), (1, .ref 0), (0, .ref 950)]) hG [0, 1, 2, 3] rfl (by decide) rfl dL_law_19 ?_
    refine z_iconst (pc := 20) hG kc_0 dL_law_20 ?_
    refine z_istore (pc := 21) (ls' := [(4, .int 0), (3, .ref 72), (2, .ref 42), (1, .ref 0), (0, .ref 950)]) hG [0, 1, 2, 3, 4] (by decide) rfl dL_law_21 ?_
    refine z_sub (ls' := [(0, .ref 950), (1, .ref 0), (2, .ref 42), (3, .ref 72), (4, .int 0)]) [4, 3, 2, 1, 0] rfl ?_
    have e64 : (zlr σl 72 (fun _ => 0)).2.2.2 = 64 := h64
    rw [e64] at k9
    exact k9
  subst hxe
  have hle := lv_entry (([.ref b] : List Value)) (n := 7) (Nat.le_of_ble_eq_true rfl)
  rw [lg_entry_eq]
  generalize (lg_sl ([.ref b]) ++ List.replicate (7 - (lg_sl ([.ref b])).length) Slot.unset).toArray = la at hle ⊢
  have hle : lv_has la 7 [(0, .ref b)] := hle
  have w := walk ad0 s.heap [] la 0 0 zad.rf (Nat.zero_le _) (fun k q h => by simp [zE_0, zws] at h) ⟨fun i j p q h => by simp [zE_0, zws] at h, fun k q h => by simp [zE_0, zws] at h⟩ va_S.rf (by rw [hml]; show lv_has la 7 [(0, .ref (ad0 950))]; rw [ad6]; exact hle) (Nat.le_of_ble_eq_true rfl) (Nat.le_of_ble_eq_true rfl) (Nat.le_of_ble_eq_true rfl) (Nat.le_of_ble_eq_true rfl)
  exact w

