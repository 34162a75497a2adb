/-! ===== rows of references; the class asked beside other cells ===== -/
section ZRf
variable {x : zXx} {cc : ByteArray} {nL : Nat} {own : String} {ret : Option FieldType} {F pc : Nat} {ls : List (Nat × Value)} {st : List Value} {dl : List zDs} {σ : zS} {A B : Nat}
theorem z_alenQ {i t b : Nat} (hG : zG x cc nL own ret) (hi : dl[i]? = some (.inr (t + 7, b))) (hd : decode cc pc = .ok (.arraylength, 1))
    (kk : zK x F (pc + 1) ls (.int (nI t) :: st) dl σ A B) : zK x F pc ls (.ref i :: st) dl σ A B := by
  obtain ⟨p, l, e, R, s, m, args, below, meth, c, D, ca, b0, ad0, n0, tg⟩ := x
  obtain ⟨hx, hb, hml, hown, hts, hret, hlk, htab, hKs, hOs, hfl⟩ := hG
  intro ad H locs la cells slots h1 h2 h3 h4 h5 h6 h7 h8 h9 h10
  exact va_alen (D := D) hx hb hKs h3 i 4 (zws_at hi) (ty := .array .int) rfl rfl hd (kk ad H locs la cells slots h1 h2 h3 h4 h5 h6 h7 h8 h9 h10)
theorem z_aald {i t b : Nat} {v : Int32} (hG : zG x cc nL own ret) (hi : dl[i]? = some (.inr (t + 7, b))) (hin : vp_in v t) (hd : decode cc pc = .ok (.aaload, 1))
    (kk : zK x F (pc + 1) ls (.ref (b + v.toNatClampNeg) :: st) dl σ A B) : zK x F pc ls (.int v :: .ref i :: st) dl σ A B := by
  obtain ⟨p, l, e, R, s, m, args, below, meth, c, D, ca, b0, ad0, n0, tg⟩ := x
  obtain ⟨hx, hb, hml, hown, hts, hret, hlk, htab, hKs, hOs, hfl⟩ := hG
  intro ad H locs la cells slots h1 h2 h3 h4 h5 h6 h7 h8 h9 h10
  have hlt : v.toNatClampNeg < t := Nat.not_le.mp fun q => hin (Or.inr q)
  have k2 := kk ad H locs la cells slots h1 h2 h3 h4 h5 h6 h7 h8 h9 h10
  have hv : va_rf (if v.toNatClampNeg < t then some (ad (b + v.toNatClampNeg)) else none) = .ref (ad (b + v.toNatClampNeg)) := by rw [if_pos hlt]; rfl
  exact W.aald (v := .ref (ad (b + v.toNatClampNeg))) (ty := .array .int) hx hb (h3 i _ (zws_at hi)) ((hKs.2 4 (ca 4, .array .int) rfl).1 t (fun j => va_rf (if j < t then some (ad (b + j)) else none))) rfl (fun q => by cases q) (by show ¬ (v < 0 ∨ (arrV _ _ _).slots.size ≤ _); rw [arrV_size]; exact hin) (by show (arrV _ _ _).slots[_]? = _; rw [arrV_read _ _ hlt]; exact congrArg some hv) rfl rfl hd k2
end ZRf
/-- cells beside the class's are as they were -/
def hiE (σ σ' : zS) : Prop := ∀ c, 42 ≤ c → σ'.1 c = σ.1 c ∧ σ'.2.1 c = σ.2.1 c
theorem hiE.tr {a b c : zS} (h : hiE a b) (h' : hiE b c) : hiE a c := fun q hq => ⟨(h' q hq).1.trans (h q hq).1, (h' q hq).2.trans (h q hq).2⟩
theorem hiE.rf {σ : zS} : hiE σ σ := fun _ _ => ⟨rfl, rfl⟩
theorem zmix_hiE {σ σ' : zS} : hiE σ (zmix σ σ') := fun _ hc => zmix_hi hc
section ZAsk
variable {l : Launch} {E : List zDs} {S : zSt} {σ : zS}
theorem q_count0 (hl0 : l.flags = flags0) (hE : E.all zfr1 = true) (hc : cI S σ)  : zC l yX10_count cX10_count 2 (Option.some Jvm.ClassFile.FieldType.int) 4 0 0 [.ref 0, .int 0] (zD ++ E) σ (.inl (some (.int (nI (pn S.1)))), zD ++ E, σ) := by
  have h : zC l yX10_count cX10_count 2 (Option.some Jvm.ClassFile.FieldType.int) 4 0 0 [.ref 0, .int 0] zD σ (.inl (some (.int (nI (pn S.1)))), zD, σ) := tX10_count hl0 0 σ (a_count hc 0)
  have h2 := zC_fr hE (fun i h => by cases h) h
  rwa [zmix_self] at h2
theorem q_count2 (hl0 : l.flags = flags0) (hE : E.all zfr1 = true) (hc : cI S σ)  : zC l yX10_count cX10_count 2 (Option.some Jvm.ClassFile.FieldType.int) 4 0 0 [.ref 0, .int 2] (zD ++ E) σ (.inl (some (.int (nI S.2.1.1))), zD ++ E, σ) := by
  have h : zC l yX10_count cX10_count 2 (Option.some Jvm.ClassFile.FieldType.int) 4 0 0 [.ref 0, .int 2] zD σ (.inl (some (.int (nI S.2.1.1))), zD, σ) := tX10_count hl0 2 σ (a_count hc 2)
  have h2 := zC_fr hE (fun i h => by cases h) h
  rwa [zmix_self] at h2
theorem q_count7 (hl0 : l.flags = flags0) (hE : E.all zfr1 = true) (hc : cI S σ)  : zC l yX10_count cX10_count 2 (Option.some Jvm.ClassFile.FieldType.int) 4 0 0 [.ref 0, .int 7] (zD ++ E) σ (.inl (some (.int (nI (prP S.1 (pn S.1))))), zD ++ E, σ) := by
  have h : zC l yX10_count cX10_count 2 (Option.some Jvm.ClassFile.FieldType.int) 4 0 0 [.ref 0, .int 7] zD σ (.inl (some (.int (nI (prP S.1 (pn S.1))))), zD, σ) := tX10_count hl0 7 σ (a_count hc 7)
  have h2 := zC_fr hE (fun i h => by cases h) h
  rwa [zmix_self] at h2
theorem q_field0 (hl0 : l.flags = flags0) (hE : E.all zfr1 = true) (hc : cI S σ) {f : Nat} (hf : f < pn S.1) : zC l yX10_field cX10_field 3 (Option.some Jvm.ClassFile.FieldType.int) 9 2 12 [.ref 0, .int (nI f), .int 0] (zD ++ E) σ (.inl (some (.int (nI (pq S.1 f)))), zD ++ E, σ) := by
  have h : zC l yX10_field cX10_field 3 (Option.some Jvm.ClassFile.FieldType.int) 9 2 12 [.ref 0, .int (nI f), .int 0] zD σ (.inl (some (.int (nI (pq S.1 f)))), zD, σ) := tX10_field hl0 _ _ σ (a_field0 hc hf)
  have h2 := zC_fr hE (fun i h => by cases h) h
  rwa [zmix_self] at h2
theorem q_field1 (hl0 : l.flags = flags0) (hE : E.all zfr1 = true) (hc : cI S σ) {f : Nat} (hf : f < pn S.1) : zC l yX10_field cX10_field 3 (Option.some Jvm.ClassFile.FieldType.int) 9 2 12 [.ref 0, .int (nI f), .int 1] (zD ++ E) σ (.inl (some (.int (nI (pw S.1 f)))), zD ++ E, σ) := by
  have h : zC l yX10_field cX10_field 3 (Option.some Jvm.ClassFile.FieldType.int) 9 2 12 [.ref 0, .int (nI f), .int 1] zD σ (.inl (some (.int (nI (pw S.1 f)))), zD, σ) := tX10_field hl0 _ _ σ (a_field1 hc hf)
  have h2 := zC_fr hE (fun i h => by cases h) h
  rwa [zmix_self] at h2
theorem q_answer (hl0 : l.flags = flags0) (hE : E.all zfr1 = true) (hc : cI S σ) {i f : Nat} (hi : i < S.2.1.1) (hf : f < pn S.1) : zC l yX10_answer cX10_answer 3 (Option.some Jvm.ClassFile.FieldType.int) 9 2 12 [.ref 0, .int (nI i), .int (nI f)] (zD ++ E) σ (.inl (some (.int (nJ (rv (S.2.1.2.1 i) f)))), zD ++ E, σ) := by
  have h : zC l yX10_answer cX10_answer 3 (Option.some Jvm.ClassFile.FieldType.int) 9 2 12 [.ref 0, .int (nI i), .int (nI f)] zD σ (.inl (some (.int (nJ (rv (S.2.1.2.1 i) f)))), zD, σ) := tX10_answer hl0 _ _ σ (a_answer hc hi hf)
  have h2 := zC_fr hE (fun i h => by cases h) h
  rwa [zmix_self] at h2
theorem q_tried (hl0 : l.flags = flags0) (hE : E.all zfr1 = true) (hc : cI S σ) {m : Nat} (hm : m < 2147483648) (hD : isD S.1 m) : zC l yX10_tried cX10_tried 3 (Option.some Jvm.ClassFile.FieldType.int) 8 1 6 [.ref 0, .int (nI m)] (zD ++ E) σ (.inl (some (.int (nI (fs S.1 (dxt m (pn S.1)))))), zD ++ E, σ) := by
  have h : zC l yX10_tried cX10_tried 3 (Option.some Jvm.ClassFile.FieldType.int) 8 1 6 [.ref 0, .int (nI m)] zD σ (.inl (some (.int (nI (fs S.1 (dxt m (pn S.1)))))), zD, σ) := tX10_tried hl0 _ σ (a_tried hc hm hD)
  have h2 := zC_fr hE (fun i h => by cases h) h
  rwa [zmix_self] at h2
theorem q_mends (hl0 : l.flags = flags0) (hE : E.all zfr1 = true) (hc : cI S σ) (hp : pn S.1 ≠ 0) {i T : Nat} (hi : i < S.2.1.1) (hT2 : T < 2 ^ pn S.1) : zC l yX10_mends cX10_mends 3 (Option.some Jvm.ClassFile.FieldType.boolean) 9 2 12 [.ref 0, .int (nI i), .int (nI T)] (zD ++ E) σ (.inl (some (.int (if cmd S.1 (S.2.1.2.1 i) T then 1 else 0))), zD ++ E, σ) := by
  have h : zC l yX10_mends cX10_mends 3 (Option.some Jvm.ClassFile.FieldType.boolean) 9 2 12 [.ref 0, .int (nI i), .int (nI T)] zD σ (.inl (some (.int (if cmd S.1 (S.2.1.2.1 i) T then 1 else 0))), zD, σ) := tX10_mends hl0 _ _ σ (a_mends hc hp hi hT2)
  have h2 := zC_fr hE (fun i h => by cases h) h
  rwa [zmix_self] at h2
theorem q_least (hl0 : l.flags = flags0) (hE : E.all zfr1 = true) (hc : cI S σ) (hp : pn S.1 ≠ 0) {i w : Nat} (hi : i < S.2.1.1) (hw : w < 3) : zC l yX10_least cX10_least 4 (Option.some Jvm.ClassFile.FieldType.int) 9 2 12 [.ref 0, .int (nI i), .int (nI w)] (zD ++ E) σ (.inl (some (.int (if w = 0 then sI (ls S.1 (S.2.1.2.1 i)) else if w = 1 then wI (lw S.1 (S.2.1.2.1 i)) else nI (cnt (lsB S.1 (S.2.1.2.1 i)) (2 ^ pn S.1))))), zD ++ E, σ) := by
  have h : zC l yX10_least cX10_least 4 (Option.some Jvm.ClassFile.FieldType.int) 9 2 12 [.ref 0, .int (nI i), .int (nI w)] zD σ (.inl (some (.int (if w = 0 then sI (ls S.1 (S.2.1.2.1 i)) else if w = 1 then wI (lw S.1 (S.2.1.2.1 i)) else nI (cnt (lsB S.1 (S.2.1.2.1 i)) (2 ^ pn S.1))))), zD, σ) := tX10_least hl0 _ _ σ (a_least hc hp hi hw)
  have h2 := zC_fr hE (fun i h => by cases h) h
  rwa [zmix_self] at h2
theorem q_leastOf (hl0 : l.flags = flags0) (hE : E.all zfr1 = true) (hc : cI S σ) (hp : pn S.1 ≠ 0) {i : Nat} {v : Int32} (hi : i < S.2.1.1) : zC l yX10_leastOf cX10_leastOf 3 (Option.some Jvm.ClassFile.FieldType.int) 9 1 6 [.ref 0, .int (nI i), .int v] (zD ++ E) σ (.inl (some (.int (kth (lsB S.1 (S.2.1.2.1 i)) (2 ^ pn S.1) v))), zD ++ E, σ) := by
  have h : zC l yX10_leastOf cX10_leastOf 3 (Option.some Jvm.ClassFile.FieldType.int) 9 1 6 [.ref 0, .int (nI i), .int v] zD σ (.inl (some (.int (kth (lsB S.1 (S.2.1.2.1 i)) (2 ^ pn S.1) v))), zD, σ) := tX10_leastOf hl0 _ _ σ (a_leastOf hc hp hi v)
  have h2 := zC_fr hE (fun i h => by cases h) h
  rwa [zmix_self] at h2
theorem q_values (hl0 : l.flags = flags0) (hE : E.all zfr1 = true) (hc : cI S σ) (hp : pn S.1 ≠ 0) {i T f : Nat} (hi : i < S.2.1.1) (hT2 : T < 2 ^ pn S.1) (hf : f < pn S.1) : zC l yX10_values cX10_values 4 (Option.some Jvm.ClassFile.FieldType.int) 9 3 18 [.ref 0, .int (nI i), .int (nI T), .int (nI f)] (zD ++ E) σ (.inl (some (.int (nI (vIn S.1 (S.2.1.2.1 i) T f)))), zD ++ E, σ) := by
  have h : zC l yX10_values cX10_values 4 (Option.some Jvm.ClassFile.FieldType.int) 9 3 18 [.ref 0, .int (nI i), .int (nI T), .int (nI f)] zD σ (.inl (some (.int (nI (vIn S.1 (S.2.1.2.1 i) T f)))), zD, σ) := tX10_values hl0 _ _ _ σ (a_values hc hp hi hT2 hf)
  have h2 := zC_fr hE (fun i h => by cases h) h
  rwa [zmix_self] at h2
theorem q_forced (hl0 : l.flags = flags0) (hE : E.all zfr1 = true) (hc : cI S σ) (hp : pn S.1 ≠ 0) {i : Nat} (hi : i < S.2.1.1) : zC l yX10_forced cX10_forced 2 (Option.some Jvm.ClassFile.FieldType.int) 9 1 6 [.ref 0, .int (nI i)] (zD ++ E) σ (.inl (some (.int (nI (frc S.1 (S.2.1.2.1 i))))), zD ++ E, σ) := by
  have h : zC l yX10_forced cX10_forced 2 (Option.some Jvm.ClassFile.FieldType.int) 9 1 6 [.ref 0, .int (nI i)] zD σ (.inl (some (.int (nI (frc S.1 (S.2.1.2.1 i))))), zD, σ) := tX10_forced hl0 _ σ (a_forced hc hp hi)
  have h2 := zC_fr hE (fun i h => by cases h) h
  rwa [zmix_self] at h2
theorem q_ways (hl0 : l.flags = flags0) (hE : E.all zfr1 = true) (hc : cI S σ) (hp : pn S.1 ≠ 0) {i T : Nat} (hi : i < S.2.1.1) (hT2 : T < 2 ^ pn S.1) : ∃ σ', cI S σ' ∧ hiE σ σ' ∧ σ.2.2.2 ≤ σ'.2.2.2 ∧ zC l yX10_ways cX10_ways 3 (Option.some Jvm.ClassFile.FieldType.int) 9 2 12 [.ref 0, .int (nI i), .int (nI T)] (zD ++ E) σ (.inl (some (.int (nI (nws S.1 (S.2.1.2.1 i) T)))), zD ++ E, σ') := by
  obtain ⟨h, hw_, hch, hf⟩ := a_ways hc hp hi hT2
  have h1 : zC l yX10_ways cX10_ways 3 (Option.some Jvm.ClassFile.FieldType.int) 9 2 12 [.ref 0, .int (nI i), .int (nI T)] zD σ (.inl (some (.int (nI (nws S.1 (S.2.1.2.1 i) T)))), zD, h) := tX10_ways hl0 _ _ σ hw_
  exact ⟨zmix σ h, cI_mix hch, zmix_hiE, hf.2.2, zC_fr hE (fun i h => by cases h) h1⟩
theorem q_would (hl0 : l.flags = flags0) (hE : E.all zfr1 = true) (hc : cI S σ) (hp : pn S.1 ≠ 0) {i w : Nat} (hi : i < S.2.1.1) (hw : w < 3) : ∃ σ', cI S σ' ∧ hiE σ σ' ∧ σ.2.2.2 ≤ σ'.2.2.2 ∧ zC l yX10_would cX10_would 4 (Option.some Jvm.ClassFile.FieldType.int) 9 2 12 [.ref 0, .int (nI i), .int (nI w)] (zD ++ E) σ (.inl (some (.int (wdA S i w))), zD ++ E, σ') := by
  obtain ⟨h, hw_, hch, hf⟩ := a_would hc hp hi hw
  have h1 : zC l yX10_would cX10_would 4 (Option.some Jvm.ClassFile.FieldType.int) 9 2 12 [.ref 0, .int (nI i), .int (nI w)] zD σ (.inl (some (.int (wdA S i w))), zD, h) := tX10_would hl0 _ _ σ hw_
  exact ⟨zmix σ h, cI_mix hch, zmix_hiE, hf.2.2, zC_fr hE (fun i h => by cases h) h1⟩
theorem q_within (hl0 : l.flags = flags0) (hE : E.all zfr1 = true) (hc : cI S σ) {i k : Nat} (hi : i < S.2.1.1) (hk : k < 2147483648) (full : ∀ f, f < pn S.1 → rv (S.2.1.2.1 i) f ≠ 0) : ∃ σ', cI S σ' ∧ hiE σ σ' ∧ σ.2.2.2 ≤ σ'.2.2.2 ∧ zC l yX10_within cX10_within 3 (Option.some Jvm.ClassFile.FieldType.int) 63 (2 + (σ'.2.2.2 / 64 - σ.2.2.2 / 64)) (12 + 2 * (σ'.2.2.2 - σ.2.2.2)) [.ref 0, .int (nI i), .int (nI k)] (zD ++ E) σ (.inl (some (.int (wtA S.1 (S.2.1.2.1 i) k))), zD ++ E, σ') := by
  obtain ⟨h, hw_, hch, hf⟩ := (show ∃ h, nX10_within (nI i) (nI k) σ = some (.inl (wtA S.1 (S.2.1.2.1 i) k), h) ∧ cI S h ∧ fz kN σ h by
    have h := a_within hc hi full (nI k)
    rwa [if_neg (nI_nn hk), nI_cl hk] at h)
  have h1 := tX10_within hl0 _ _ σ hw_
  dsimp only [ztI] at h1
  refine ⟨zmix σ h, cI_mix hch, zmix_hiE, hf.2.2, ?_⟩
  have e : (zmix σ h).2.2.2 = h.2.2.2 := rfl
  rw [e]
  exact zC_fr hE (fun i h => by cases h) h1
theorem q_box (hl0 : l.flags = flags0) (hE : E.all zfr1 = true) (hc : cI S σ) {i : Nat} (hi : i < nB S.1) : ∃ σ', cI S σ' ∧ hiE σ σ' ∧ σ.2.2.2 ≤ σ'.2.2.2 ∧ zC l yX10_box cX10_box 3 (Option.some Jvm.ClassFile.FieldType.int) 63 (2 + (σ'.2.2.2 / 64 - σ.2.2.2 / 64)) (12 + 2 * (σ'.2.2.2 - σ.2.2.2)) [.ref 0, .int (nI i), .int (-1)] (zD ++ E) σ (.inl (some (.int (nI (ent S.1 (bX S.1 i))))), zD ++ E, σ') := by
  obtain ⟨h, hw_, hch, hf⟩ := a_box hc hi
  have h1 := tX10_box hl0 _ _ σ hw_
  dsimp only [ztI] at h1
  refine ⟨zmix σ h, cI_mix hch, zmix_hiE, hf.2.2, ?_⟩
  have e : (zmix σ h).2.2.2 = h.2.2.2 := rfl
  rw [e]
  exact zC_fr hE (fun i h => by cases h) h1
end ZAsk
/-! how many boxes hold a row -/
def cmpb (v b : Nat) : Nat := b / 2 ^ (v + 1) * 2 ^ v + b % 2 ^ v
theorem cmpb_chk : (List.range 4).all (fun v => (List.range 16).all fun b => (List.range 16).all fun c => !(b.testBit v && c.testBit v) || (decide (cmpb v b < 8) && (!(cmpb v b == cmpb v c) || b == c))) = true := by decide +kernel
theorem cmpb_all (v : Nat) (hv : v < 4) (b : Nat) (hb : b < 16) (c : Nat) (hc : c < 16) (h1 : b.testBit v = true) (h2 : c.testBit v = true) : cmpb v b < 8 ∧ (cmpb v b = cmpb v c → b = c) := by
  have h := List.all_eq_true.mp (List.all_eq_true.mp (List.all_eq_true.mp cmpb_chk v (List.mem_range.mpr hv)) b (List.mem_range.mpr hb)) c (List.mem_range.mpr hc)
  rw [h1, h2, Bool.and_self, Bool.not_true, Bool.false_or, Bool.and_eq_true, decide_eq_true_eq] at h
  refine ⟨h.1, fun e => ?_⟩
  have h3 := h.2
  rw [show (cmpb v b == cmpb v c) = true from beq_iff_eq.mpr e, Bool.not_true, Bool.false_or] at h3
  exact beq_iff_eq.mp h3
theorem hl_512 {P : zPl} (hO : pOK P) (h4 : pn P ≤ 4) (hq4 : ∀ f, f < pn P → pq P f ≤ 4) {c : Nat} (hc : rOK P c) : cnt (hlB P c) (nB P) ≤ 512 := by
  have hv : ∀ f, f < pn P → rv c f - 1 < 4 := fun f hf => by
    have := hc.2.1 f hf
    have := hq4 f hf
    omega
  have hb : ∀ i, i < nB P → hlB P c i = true → ∀ f, f < 3 → (f < pn P → bk (bX P i) f < 16 ∧ (bk (bX P i) f).testBit (rv c f - 1) = true) ∧ (¬ f < pn P → bk (bX P i) f = 1) := by
    intro i hi hh f hf
    obtain ⟨b1, b2, b3⟩ := bX_spec hi
    obtain ⟨g1, g2, g3⟩ := gK_t.mp b2
    refine ⟨fun hfn => ⟨Nat.lt_of_lt_of_le (g3.1 f hfn).2 (Nat.pow_le_pow_right (n := 2) (by decide) (hq4 f hfn)), ?_⟩, fun hfn => g2 f (by omega) (by omega)⟩
    have h := hh
    unfold hlB at h
    exact dB_t.mp h f hfn
  have hφ : ∀ i, i < nB P → hlB P c i = true → ∀ f, f < 3 → (if f < pn P then cmpb (rv c f - 1) (bk (bX P i) f) else 0) < 8 := by
    intro i hi hh f hf
    by_cases hfn : f < pn P
    · rw [if_pos hfn]
      obtain ⟨k1, k2⟩ := (hb i hi hh f hf).1 hfn
      exact (cmpb_all _ (hv f hfn) _ k1 _ k1 k2 k2).1
    · rw [if_neg hfn]
      decide
  refine cnt_under (φ := fun i => ((if 0 < pn P then cmpb (rv c 0 - 1) (bk (bX P i) 0) else 0) * 8 + (if 1 < pn P then cmpb (rv c 1 - 1) (bk (bX P i) 1) else 0)) * 8 + (if 2 < pn P then cmpb (rv c 2 - 1) (bk (bX P i) 2) else 0)) (fun i hi hh => ?_) (fun i j hi hj hhi hhj e => ?_)
  · have h0 := hφ i hi hh 0 (by decide)
    have h1 := hφ i hi hh 1 (by decide)
    have h2 := hφ i hi hh 2 (by decide)
    omega
  · have i0 := hφ i hi hhi 0 (by decide)
    have i1 := hφ i hi hhi 1 (by decide)
    have i2 := hφ i hi hhi 2 (by decide)
    have j0 := hφ j hj hhj 0 (by decide)
    have j1 := hφ j hj hhj 1 (by decide)
    have j2 := hφ j hj hhj 2 (by decide)
    have e0 : (if 0 < pn P then cmpb (rv c 0 - 1) (bk (bX P i) 0) else 0) = (if 0 < pn P then cmpb (rv c 0 - 1) (bk (bX P j) 0) else 0) := by omega
    have e1 : (if 1 < pn P then cmpb (rv c 1 - 1) (bk (bX P i) 1) else 0) = (if 1 < pn P then cmpb (rv c 1 - 1) (bk (bX P j) 1) else 0) := by omega
    have e2 : (if 2 < pn P then cmpb (rv c 2 - 1) (bk (bX P i) 2) else 0) = (if 2 < pn P then cmpb (rv c 2 - 1) (bk (bX P j) 2) else 0) := by omega
    have key : ∀ f, f < 3 → f < pn P → (if f < pn P then cmpb (rv c f - 1) (bk (bX P i) f) else 0) = (if f < pn P then cmpb (rv c f - 1) (bk (bX P j) f) else 0) → bk (bX P i) f = bk (bX P j) f := by
      intro f hf hfn e
      rw [if_pos hfn, if_pos hfn] at e
      obtain ⟨k1, k2⟩ := (hb i hi hhi f hf).1 hfn
      obtain ⟨m1, m2⟩ := (hb j hj hhj f hf).1 hfn
      exact (cmpb_all _ (hv f hfn) _ k1 _ m1 k2 m2).2 e
    obtain ⟨a1, a2, a3⟩ := bX_spec hi
    obtain ⟨b1, b2, b3⟩ := bX_spec hj
    have hX : bX P i = bX P j := gK_last hO a1 b1 a2 b2 (fun f hf => by
      have hc3 : f = 0 ∨ f = 1 ∨ f = 2 := by omega
      rcases hc3 with rfl | rfl | rfl
      · exact key 0 (by decide) (by omega) e0
      · exact key 1 (by decide) (by omega) e1
      · exact key 2 (by decide) (by omega) e2)
    rw [hX, b3] at a3
    exact a3.symm
