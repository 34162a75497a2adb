
/-! ===== the language of the functions: checks, loops; calls over the full world ===== -/
def zin (i : Int32) (n : Nat) : Bool := decide (¬ (i < 0 ∨ n ≤ i.toNatClampNeg))
theorem zin_in {i : Int32} {n : Nat} (h : zin i n = true) : vp_in i n := by
  have h2 : ¬ (i < 0 ∨ n ≤ i.toNatClampNeg) := of_decide_eq_true h
  exact h2
def zchk {α : Type} (b : Bool) (t : Option α) : Option α := match b with | true => t | false => none
theorem zchk_some {α : Type} {b : Bool} {t : Option α} {o : α} (h : zchk b t = some o) : b = true ∧ t = some o := by
  cases b
  · cases h
  · exact ⟨rfl, h⟩
theorem zchk_t {α : Type} {b : Bool} {t : Option α} (hb : b = true) : zchk b t = t := by subst hb; rfl
theorem zbind {α β : Type} {a : Option α} {f : α → Option β} {o : β} (h : a.bind f = some o) : ∃ v, a = some v ∧ f v = some o := by
  cases a with
  | none => cases h
  | some v => exact ⟨v, rfl, h⟩
def zex {S R : Type} (t : Option R) : Option (S ⊕ R) := t.map Sum.inr
theorem zex_some {S R : Type} {t : Option R} {o : S ⊕ R} (h : zex t = some o) : ∃ r, t = some r ∧ o = .inr r := by
  cases t with
  | none => cases h
  | some r => exact ⟨r, rfl, (Option.some.inj h).symm⟩
def zel {V R : Type} (s : V ⊕ String) (f : V → Option R) (g : String → Option R) : Option R := match s with | .inl v => f v | .inr e => g e
theorem zif_t {α : Type} {c : Prop} [Decidable c] {t f o : Option α} (hc : c) (h : (if c then t else f) = o) : t = o := by rw [if_pos hc] at h; exact h
theorem zif_f {α : Type} {c : Prop} [Decidable c] {t f o : Option α} (hc : ¬ c) (h : (if c then t else f) = o) : f = o := by rw [if_neg hc] at h; exact h
def whN {S R : Type} (step : S → Option (S ⊕ R)) : Nat → S → Option R
  | 0, _ => none
  | n + 1, s => match step s with
    | none => none
    | some (.inr r) => some r
    | some (.inl s') => whN step n s'
/-- a loop: the steps from s on until one leaves -/
noncomputable def wh {S R : Type} (step : S → Option (S ⊕ R)) (s : S) : Option R := @dite (Option R) (∃ n r, whN step n s = some r) (Classical.propDecidable _) (fun h => whN step h.choose s) (fun _ => none)
theorem whN_mono {S R : Type} {step : S → Option (S ⊕ R)} {r : R} : ∀ (n : Nat) (s : S), whN step n s = some r → ∀ k, whN step (n + k) s = some r := by
  intro n
  induction n with
  | zero => intro s h; cases h
  | succ n ih =>
    intro s h k
    rw [Nat.succ_add]
    simp only [whN] at h ⊢
    cases hs : step s with
    | none => rw [hs] at h; cases h
    | some o =>
      rw [hs] at h
      cases o with
      | inl s' => exact ih s' h k
      | inr q => exact h
theorem wh_N {S R : Type} {step : S → Option (S ⊕ R)} {s : S} {r : R} : wh step s = some r ↔ ∃ n, whN step n s = some r := by
  unfold wh
  by_cases hex : ∃ n r, whN step n s = some r
  · rw [dif_pos hex]
    constructor
    · intro h; exact ⟨_, h⟩
    · rintro ⟨n, h⟩
      obtain ⟨q, hq⟩ := hex.choose_spec
      have h1 := whN_mono _ _ h hex.choose
      have h2 := whN_mono _ _ hq n
      rw [Nat.add_comm] at h2
      rw [hq, ← h1, h2]
  · rw [dif_neg hex]
    constructor
    · intro h; cases h
    · rintro ⟨n, h⟩; exact (hex ⟨n, r, h⟩).elim
theorem wh_eq {S R : Type} (step : S → Option (S ⊕ R)) (s : S) : wh step s = match step s with | none => none | some (.inr r) => some r | some (.inl s') => wh step s' := by
  apply Option.ext
  intro r
  rw [wh_N]
  constructor
  · rintro ⟨n, h⟩
    cases n with
    | zero => cases h
    | succ n =>
      simp only [whN] at h
      cases hs : step s with
      | none => rw [hs] at h; cases h
      | some o =>
        rw [hs] at h
        cases o with
        | inl s' => exact wh_N.mpr ⟨n, h⟩
        | inr q => exact h
  · intro h
    cases hs : step s with
    | none => rw [hs] at h; cases h
    | some o =>
      rw [hs] at h
      cases o with
      | inl s' =>
        obtain ⟨n, hn⟩ := wh_N.mp h
        exact ⟨n + 1, by simp only [whN, hs]; exact hn⟩
      | inr q => exact ⟨1, by simp only [whN, hs]; exact h⟩
theorem wh_in {S R : Type} {step : S → Option (S ⊕ R)} {s s' : S} (h : step s = some (.inl s')) : wh step s = wh step s' := by rw [wh_eq, h]
theorem wh_out {S R : Type} {step : S → Option (S ⊕ R)} {s : S} {r : R} (h : step s = some (.inr r)) : wh step s = some r := by rw [wh_eq, h]
theorem wh_ind {S R : Type} {step : S → Option (S ⊕ R)} {r : R} (P : S → Prop) (hstep : ∀ s o, step s = some o → (match o with | .inl s' => P s' | .inr r' => r' = r) → P s) : ∀ s, wh step s = some r → P s := by
  intro s h
  obtain ⟨n, hn⟩ := wh_N.mp h
  induction n generalizing s with
  | zero => cases hn
  | succ n ih =>
    simp only [whN] at hn
    cases hs : step s with
    | none => rw [hs] at hn; cases hn
    | some o =>
      rw [hs] at hn
      cases o with
      | inl s' => exact hstep s _ hs (ih s' (wh_N.mpr ⟨n, hn⟩) hn)
      | inr q => exact hstep s _ hs (Option.some.inj hn)

/-- all cells of the world -/
def zD : List zDs := [.inl (8, [(1, 1), (1, 3), (1, 11), (1, 19), (1, 20), (1, 26), (1, 31), (1, 34), (1, 37), (1, 40), (1, 41), (0, 0), (0, 0)]), .inl (7, [(1, 2), (0, 0)]), .inr (1, 400), .inl (4, [(0, 0), (1, 4), (1, 5), (1, 6), (1, 7), (1, 8), (0, 0), (0, 0), (1, 9), (0, 0), (1, 10)]), .inr (0, 5), .inr (0, 5), .inr (0, 5), .inr (1, 30), .inr (0, 5), .inr (0, 30), .inr (0, 40), .inl (4, [(0, 0), (1, 12), (1, 13), (1, 14), (1, 15), (1, 16), (0, 0), (0, 0), (1, 17), (0, 0), (1, 18)]), .inr (0, 5), .inr (0, 5), .inr (0, 5), .inr (1, 30), .inr (0, 5), .inr (0, 30), .inr (0, 40), .inl (5, [(1, 1), (1, 11), (0, 0), (0, 0), (0, 0)]), .inl (3, [(1, 3), (1, 21), (1, 22), (1, 23), (2, 0), (2, 1), (0, 0)]), .inr (0, 30), .inr (0, 32), .inr (3, 32), .inr (0, 64), .inr (0, 64), .inl (0, [(1, 3), (1, 20), (1, 27), (0, 0), (0, 0), (1, 28), (1, 29), (1, 30)]), .inr (4, 64), .inr (0, 5), .inr (3, 6), .inr (3, 25), .inl (6, [(1, 32), (0, 0), (0, 0), (1, 33)]), .inr (0, 40), .inr (0, 656), .inl (1, [(1, 3), (1, 20), (1, 31), (1, 35), (1, 36), (0, 0)]), .inr (0, 40), .inr (0, 40), .inl (2, [(1, 3), (1, 20), (1, 31), (1, 38), (1, 39)]), .inr (0, 40), .inr (0, 40), .inr (0, 40), .inr (1, 5), .inl (9, [(0, 0), (1, 43), (0, 0), (0, 0), (0, 0), (0, 0), (0, 0), (0, 0), (0, 0), (0, 0), (1, 44), (1, 45), (1, 46), (1, 47), (1, 48), (1, 49), (0, 0), (0, 0), (0, 0), (0, 0), (1, 50), (1, 51), (1, 52), (1, 53), (1, 54), (1, 55), (1, 56), (1, 57), (1, 58), (0, 0), (1, 59), (1, 60), (0, 0), (1, 61), (1, 62), (1, 63), (0, 0), (1, 64), (1, 65), (1, 66), (1, 67), (1, 68), (0, 0), (1, 69), (1, 70), (1, 71), (0, 0)]), .inr (0, 400), .inr (3, 5), .inr (0, 5), .inr (0, 5), .inr (2, 5), .inr (0, 30), .inr (0, 200), .inr (3, 5), .inr (0, 5), .inr (0, 5), .inr (2, 5), .inr (0, 30), .inr (0, 200), .inr (0, 3125), .inr (2, 3125), .inr (0, 5), .inr (0, 150000), .inr (0, 5), .inr (0, 16), .inr (0, 3200), .inr (0, 5), .inr (0, 40), .inr (0, 40), .inr (0, 40), .inr (0, 40), .inr (0, 40), .inr (0, 40), .inr (0, 40), .inr (0, 5), .inr (3, 1)]
theorem zD_n : zD.length = 73 := by rfl
theorem DL_0 : zD[0]? = some (.inl (8, [(1, 1), (1, 3), (1, 11), (1, 19), (1, 20), (1, 26), (1, 31), (1, 34), (1, 37), (1, 40), (1, 41), (0, 0), (0, 0)])) := by rfl
theorem DL_1 : zD[1]? = some (.inl (7, [(1, 2), (0, 0)])) := by rfl
theorem DL_2 : zD[2]? = some (.inr (1, 400)) := by rfl
theorem DL_3 : zD[3]? = some (.inl (4, [(0, 0), (1, 4), (1, 5), (1, 6), (1, 7), (1, 8), (0, 0), (0, 0), (1, 9), (0, 0), (1, 10)])) := by rfl
theorem DL_4 : zD[4]? = some (.inr (0, 5)) := by rfl
theorem DL_5 : zD[5]? = some (.inr (0, 5)) := by rfl
theorem DL_6 : zD[6]? = some (.inr (0, 5)) := by rfl
theorem DL_7 : zD[7]? = some (.inr (1, 30)) := by rfl
theorem DL_8 : zD[8]? = some (.inr (0, 5)) := by rfl
theorem DL_9 : zD[9]? = some (.inr (0, 30)) := by rfl
theorem DL_10 : zD[10]? = some (.inr (0, 40)) := by rfl
theorem DL_11 : zD[11]? = some (.inl (4, [(0, 0), (1, 12), (1, 13), (1, 14), (1, 15), (1, 16), (0, 0), (0, 0), (1, 17), (0, 0), (1, 18)])) := by rfl
theorem DL_12 : zD[12]? = some (.inr (0, 5)) := by rfl
theorem DL_13 : zD[13]? = some (.inr (0, 5)) := by rfl
theorem DL_14 : zD[14]? = some (.inr (0, 5)) := by rfl
theorem DL_15 : zD[15]? = some (.inr (1, 30)) := by rfl
theorem DL_16 : zD[16]? = some (.inr (0, 5)) := by rfl
theorem DL_17 : zD[17]? = some (.inr (0, 30)) := by rfl
theorem DL_18 : zD[18]? = some (.inr (0, 40)) := by rfl
theorem DL_19 : zD[19]? = some (.inl (5, [(1, 1), (1, 11), (0, 0), (0, 0), (0, 0)])) := by rfl
theorem DL_20 : zD[20]? = some (.inl (3, [(1, 3), (1, 21), (1, 22), (1, 23), (2, 0), (2, 1), (0, 0)])) := by rfl
theorem DL_21 : zD[21]? = some (.inr (0, 30)) := by rfl
theorem DL_22 : zD[22]? = some (.inr (0, 32)) := by rfl
theorem DL_23 : zD[23]? = some (.inr (3, 32)) := by rfl
theorem DL_24 : zD[24]? = some (.inr (0, 64)) := by rfl
theorem DL_25 : zD[25]? = some (.inr (0, 64)) := by rfl
theorem DL_26 : zD[26]? = some (.inl (0, [(1, 3), (1, 20), (1, 27), (0, 0), (0, 0), (1, 28), (1, 29), (1, 30)])) := by rfl
theorem DL_27 : zD[27]? = some (.inr (4, 64)) := by rfl
theorem DL_28 : zD[28]? = some (.inr (0, 5)) := by rfl
theorem DL_29 : zD[29]? = some (.inr (3, 6)) := by rfl
theorem DL_30 : zD[30]? = some (.inr (3, 25)) := by rfl
theorem DL_31 : zD[31]? = some (.inl (6, [(1, 32), (0, 0), (0, 0), (1, 33)])) := by rfl
theorem DL_32 : zD[32]? = some (.inr (0, 40)) := by rfl
theorem DL_33 : zD[33]? = some (.inr (0, 656)) := by rfl
theorem DL_34 : zD[34]? = some (.inl (1, [(1, 3), (1, 20), (1, 31), (1, 35), (1, 36), (0, 0)])) := by rfl
theorem DL_35 : zD[35]? = some (.inr (0, 40)) := by rfl
theorem DL_36 : zD[36]? = some (.inr (0, 40)) := by rfl
theorem DL_37 : zD[37]? = some (.inl (2, [(1, 3), (1, 20), (1, 31), (1, 38), (1, 39)])) := by rfl
theorem DL_38 : zD[38]? = some (.inr (0, 40)) := by rfl
theorem DL_39 : zD[39]? = some (.inr (0, 40)) := by rfl
theorem DL_40 : zD[40]? = some (.inr (0, 40)) := by rfl
theorem DL_41 : zD[41]? = some (.inr (1, 5)) := by rfl
theorem DL_42 : zD[42]? = some (.inl (9, [(0, 0), (1, 43), (0, 0), (0, 0), (0, 0), (0, 0), (0, 0), (0, 0), (0, 0), (0, 0), (1, 44), (1, 45), (1, 46), (1, 47), (1, 48), (1, 49), (0, 0), (0, 0), (0, 0), (0, 0), (1, 50), (1, 51), (1, 52), (1, 53), (1, 54), (1, 55), (1, 56), (1, 57), (1, 58), (0, 0), (1, 59), (1, 60), (0, 0), (1, 61), (1, 62), (1, 63), (0, 0), (1, 64), (1, 65), (1, 66), (1, 67), (1, 68), (0, 0), (1, 69), (1, 70), (1, 71), (0, 0)])) := by rfl
theorem DL_43 : zD[43]? = some (.inr (0, 400)) := by rfl
theorem DL_44 : zD[44]? = some (.inr (3, 5)) := by rfl
theorem DL_45 : zD[45]? = some (.inr (0, 5)) := by rfl
theorem DL_46 : zD[46]? = some (.inr (0, 5)) := by rfl
theorem DL_47 : zD[47]? = some (.inr (2, 5)) := by rfl
theorem DL_48 : zD[48]? = some (.inr (0, 30)) := by rfl
theorem DL_49 : zD[49]? = some (.inr (0, 200)) := by rfl
theorem DL_50 : zD[50]? = some (.inr (3, 5)) := by rfl
theorem DL_51 : zD[51]? = some (.inr (0, 5)) := by rfl
theorem DL_52 : zD[52]? = some (.inr (0, 5)) := by rfl
theorem DL_53 : zD[53]? = some (.inr (2, 5)) := by rfl
theorem DL_54 : zD[54]? = some (.inr (0, 30)) := by rfl
theorem DL_55 : zD[55]? = some (.inr (0, 200)) := by rfl
theorem DL_56 : zD[56]? = some (.inr (0, 3125)) := by rfl
theorem DL_57 : zD[57]? = some (.inr (2, 3125)) := by rfl
theorem DL_58 : zD[58]? = some (.inr (0, 5)) := by rfl
theorem DL_59 : zD[59]? = some (.inr (0, 150000)) := by rfl
theorem DL_60 : zD[60]? = some (.inr (0, 5)) := by rfl
theorem DL_61 : zD[61]? = some (.inr (0, 16)) := by rfl
theorem DL_62 : zD[62]? = some (.inr (0, 3200)) := by rfl
theorem DL_63 : zD[63]? = some (.inr (0, 5)) := by rfl
theorem DL_64 : zD[64]? = some (.inr (0, 40)) := by rfl
theorem DL_65 : zD[65]? = some (.inr (0, 40)) := by rfl
theorem DL_66 : zD[66]? = some (.inr (0, 40)) := by rfl
theorem DL_67 : zD[67]? = some (.inr (0, 40)) := by rfl
theorem DL_68 : zD[68]? = some (.inr (0, 40)) := by rfl
theorem DL_69 : zD[69]? = some (.inr (0, 40)) := by rfl
theorem DL_70 : zD[70]? = some (.inr (0, 40)) := by rfl
theorem DL_71 : zD[71]? = some (.inr (0, 5)) := by rfl
theorem DL_72 : zD[72]? = some (.inr (3, 1)) := by rfl
theorem zc_X0 : zcls[0]? = some (RX0, TX0, 8) := by rfl
theorem zc_X2 : zcls[1]? = some (RX2, TX2, 6) := by rfl
theorem zc_X4 : zcls[2]? = some (RX4, TX4, 5) := by rfl
theorem zc_X5 : zcls[3]? = some (RX5, TX5, 7) := by rfl
theorem zc_X6 : zcls[4]? = some (RX6, TX6, 11) := by rfl
theorem zc_X7 : zcls[5]? = some (RX7, TX7, 5) := by rfl
theorem zc_X8 : zcls[6]? = some (RX8, TX8, 4) := by rfl
theorem zc_X9 : zcls[7]? = some (RX9, TX9, 2) := by rfl
theorem zc_X10 : zcls[8]? = some (RX10, TX10, 13) := by rfl
theorem zc_X11 : zcls[9]? = some (RX11, TX11, 47) := by rfl

section ZCalls
variable {x : zXx} {cc bytes : ByteArray} {nL maxL : Nat} {own : String} {ret ret' : Option FieldType} {F fr pc : Nat} {ls : List (Nat × Value)} {st : List Value} {σ σ' : zS} {A B A' B' nc ns n index : Nat} {y : MethodName} {E : String}
theorem z_csI {v : Int32} (hG : zG x cc nL own ret) (As rest : List Value) (hC : zC (zl0 x) y bytes maxL ret' fr nc ns As zD σ (.inl (some (.int v)), zD, σ')) (hy : zY y bytes maxL ret' n) (hs : Cond.static y ∈ zT) (hl : Cond.methodLink own index y ∈ zT) (hd : decode cc pc = .ok (.invokestatic index, 3)) (hn : As.length = n) (hF : fr + 1 ≤ F) (hA : A = A' + nc) (hB : B = B' + ns)
    (hok : (rest.all (zok 73) && ls.all (fun q => zok 73 q.2)) = true) (hW : (rest.map fun v => v.category).sum ≤ 8) (hst : st = As.reverse ++ rest) (kk : zK x F (pc + 3) ls (.int v :: rest) zD σ' A' B') : zK x F pc ls st zD σ A B := by
  subst hst
  rw [Bool.and_eq_true] at hok
  exact z_static (v := (some (.int v))) hG 73 As hC hy hs hl hd hn hF (Nat.le_of_eq zD_n.symm) (Nat.le_refl _) hok.1 hok.2 hA hB hW kk
theorem z_cvI {v : Int32} {ci i N : Nat} {C : String} {T : u_T} {fl : List (Nat × Nat)} (hG : zG x cc nL own ret) (As rest : List Value) (hc : zcls[ci]? = some (C, T, N)) (hi : zD[i]? = some (.inl (ci, fl))) (hC : zC (zl0 x) y bytes maxL ret' fr nc ns (.ref i :: As) zD σ (.inl (some (.int v)), zD, σ')) (hy : zY y bytes maxL ret' n) (hs : Cond.instanceMethod y ∈ zT ∧ Cond.selects C y y ∈ zT) (hl : Cond.methodLink own index y ∈ zT) (hd : decode cc pc = .ok (.invokevirtual index, 3)) (hn : As.length = n) (hF : fr + 1 ≤ F) (hA : A = A' + nc) (hB : B = B' + ns)
    (hok : (rest.all (zok 73) && ls.all (fun q => zok 73 q.2)) = true) (hW : (rest.map fun v => v.category).sum ≤ 8) (hst : st = As.reverse ++ .ref i :: rest) (kk : zK x F (pc + 3) ls (.int v :: rest) zD σ' A' B') : zK x F pc ls st zD σ A B := by
  subst hst
  rw [Bool.and_eq_true] at hok
  exact z_virt (v := (some (.int v))) hG 73 As hc hi hC hy hs hl hd hn hF (Nat.le_of_eq zD_n.symm) (Nat.le_refl _) hok.1 hok.2 hA hB hW kk
theorem z_csJ {v : Int64} (hG : zG x cc nL own ret) (As rest : List Value) (hC : zC (zl0 x) y bytes maxL ret' fr nc ns As zD σ (.inl (some (.long v)), zD, σ')) (hy : zY y bytes maxL ret' n) (hs : Cond.static y ∈ zT) (hl : Cond.methodLink own index y ∈ zT) (hd : decode cc pc = .ok (.invokestatic index, 3)) (hn : As.length = n) (hF : fr + 1 ≤ F) (hA : A = A' + nc) (hB : B = B' + ns)
    (hok : (rest.all (zok 73) && ls.all (fun q => zok 73 q.2)) = true) (hW : (rest.map fun v => v.category).sum ≤ 8) (hst : st = As.reverse ++ rest) (kk : zK x F (pc + 3) ls (.long v :: rest) zD σ' A' B') : zK x F pc ls st zD σ A B := by
  subst hst
  rw [Bool.and_eq_true] at hok
  exact z_static (v := (some (.long v))) hG 73 As hC hy hs hl hd hn hF (Nat.le_of_eq zD_n.symm) (Nat.le_refl _) hok.1 hok.2 hA hB hW kk
theorem z_cvJ {v : Int64} {ci i N : Nat} {C : String} {T : u_T} {fl : List (Nat × Nat)} (hG : zG x cc nL own ret) (As rest : List Value) (hc : zcls[ci]? = some (C, T, N)) (hi : zD[i]? = some (.inl (ci, fl))) (hC : zC (zl0 x) y bytes maxL ret' fr nc ns (.ref i :: As) zD σ (.inl (some (.long v)), zD, σ')) (hy : zY y bytes maxL ret' n) (hs : Cond.instanceMethod y ∈ zT ∧ Cond.selects C y y ∈ zT) (hl : Cond.methodLink own index y ∈ zT) (hd : decode cc pc = .ok (.invokevirtual index, 3)) (hn : As.length = n) (hF : fr + 1 ≤ F) (hA : A = A' + nc) (hB : B = B' + ns)
    (hok : (rest.all (zok 73) && ls.all (fun q => zok 73 q.2)) = true) (hW : (rest.map fun v => v.category).sum ≤ 8) (hst : st = As.reverse ++ .ref i :: rest) (kk : zK x F (pc + 3) ls (.long v :: rest) zD σ' A' B') : zK x F pc ls st zD σ A B := by
  subst hst
  rw [Bool.and_eq_true] at hok
  exact z_virt (v := (some (.long v))) hG 73 As hc hi hC hy hs hl hd hn hF (Nat.le_of_eq zD_n.symm) (Nat.le_refl _) hok.1 hok.2 hA hB hW kk
theorem z_csV (hG : zG x cc nL own ret) (As rest : List Value) (hC : zC (zl0 x) y bytes maxL ret' fr nc ns As zD σ (.inl none, zD, σ')) (hy : zY y bytes maxL ret' n) (hs : Cond.static y ∈ zT) (hl : Cond.methodLink own index y ∈ zT) (hd : decode cc pc = .ok (.invokestatic index, 3)) (hn : As.length = n) (hF : fr + 1 ≤ F) (hA : A = A' + nc) (hB : B = B' + ns)
    (hok : (rest.all (zok 73) && ls.all (fun q => zok 73 q.2)) = true) (hW : (rest.map fun v => v.category).sum ≤ 8) (hst : st = As.reverse ++ rest) (kk : zK x F (pc + 3) ls (rest) zD σ' A' B') : zK x F pc ls st zD σ A B := by
  subst hst
  rw [Bool.and_eq_true] at hok
  exact z_static (v := none) hG 73 As hC hy hs hl hd hn hF (Nat.le_of_eq zD_n.symm) (Nat.le_refl _) hok.1 hok.2 hA hB hW kk
theorem z_cvV {ci i N : Nat} {C : String} {T : u_T} {fl : List (Nat × Nat)} (hG : zG x cc nL own ret) (As rest : List Value) (hc : zcls[ci]? = some (C, T, N)) (hi : zD[i]? = some (.inl (ci, fl))) (hC : zC (zl0 x) y bytes maxL ret' fr nc ns (.ref i :: As) zD σ (.inl none, zD, σ')) (hy : zY y bytes maxL ret' n) (hs : Cond.instanceMethod y ∈ zT ∧ Cond.selects C y y ∈ zT) (hl : Cond.methodLink own index y ∈ zT) (hd : decode cc pc = .ok (.invokevirtual index, 3)) (hn : As.length = n) (hF : fr + 1 ≤ F) (hA : A = A' + nc) (hB : B = B' + ns)
    (hok : (rest.all (zok 73) && ls.all (fun q => zok 73 q.2)) = true) (hW : (rest.map fun v => v.category).sum ≤ 8) (hst : st = As.reverse ++ .ref i :: rest) (kk : zK x F (pc + 3) ls (rest) zD σ' A' B') : zK x F pc ls st zD σ A B := by
  subst hst
  rw [Bool.and_eq_true] at hok
  exact z_virt (v := none) hG 73 As hc hi hC hy hs hl hd hn hF (Nat.le_of_eq zD_n.symm) (Nat.le_refl _) hok.1 hok.2 hA hB hW kk
theorem z_csX (hG : zG x cc nL own ret) (As rest : List Value) (hC : zC (zl0 x) y bytes maxL ret' fr nc ns As zD σ (.inr E, zD, σ')) (hy : zY y bytes maxL ret' n) (hs : Cond.static y ∈ zT) (hl : Cond.methodLink own index y ∈ zT) (hd : decode cc pc = .ok (.invokestatic index, 3)) (hn : As.length = n) (hF : fr + 1 ≤ F) (hA : nc ≤ A) (hB : ns ≤ B)
    (hW : (rest.map fun v => v.category).sum ≤ 8) (hst : st = As.reverse ++ rest) (htg : ztg x = (.inr E, zD, σ')) : zK x F pc ls st zD σ A B := by
  subst hst
  exact z_staticX hG As hC hy hs hl hd hn hF (Nat.le_refl _) hA hB hW htg
theorem z_cvX {ci i N : Nat} {C : String} {T : u_T} {fl : List (Nat × Nat)} (hG : zG x cc nL own ret) (As rest : List Value) (hc : zcls[ci]? = some (C, T, N)) (hi : zD[i]? = some (.inl (ci, fl))) (hC : zC (zl0 x) y bytes maxL ret' fr nc ns (.ref i :: As) zD σ (.inr E, zD, σ')) (hy : zY y bytes maxL ret' n) (hs : Cond.instanceMethod y ∈ zT ∧ Cond.selects C y y ∈ zT) (hl : Cond.methodLink own index y ∈ zT) (hd : decode cc pc = .ok (.invokevirtual index, 3)) (hn : As.length = n) (hF : fr + 1 ≤ F) (hA : nc ≤ A) (hB : ns ≤ B)
    (hW : (rest.map fun v => v.category).sum ≤ 8) (hst : st = As.reverse ++ .ref i :: rest) (htg : ztg x = (.inr E, zD, σ')) : zK x F pc ls st zD σ A B := by
  subst hst
  exact z_virtX hG As hc hi hC hy hs hl hd hn hF (Nat.le_refl _) hA hB hW htg
end ZCalls
theorem z_wk {x : zXx} {F pc : Nat} {ls : List (Nat × Value)} {st : List Value} {dl : List zDs} {σ : zS} {A B A' B' : Nat} (hA : A' ≤ A) (hB : B' ≤ B) (k : zK x F pc ls st dl σ A' B') : zK x F pc ls st dl σ A B := by
  obtain ⟨p, l, e, R, s, m, args, below, meth, c, D, ca, b0, ad0, n0, tg⟩ := x
  intro ad H locs la cells slots h1 h2 h3 h4 h5 h6 h7 h8 h9 h10
  exact k ad H locs la cells slots h1 h2 h3 h4 h5 h6 (by omega) (by omega) h9 h10
theorem zG_lk {x : zXx} {cc : ByteArray} {nL : Nat} {own : String} {ret : Option FieldType} (_ : zG x cc nL own ret) : True := trivial
def znb (v : Int32) : Bool := v == 0 || v == 1
theorem znb_n {v : Int32} (h : znb v = true) : narrow .boolean (.int v) = .int v := by
  unfold znb at h
  rw [Bool.or_eq_true, beq_iff_eq, beq_iff_eq] at h
  rcases h with rfl | rfl <;> rfl

