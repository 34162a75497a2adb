
/-! ===== read: a text, class and reference ===== -/
section Tx
variable {g h k : zS} {tn : Nat} {tb : Nat → Nat} {s p t : Nat} {P : zPl} {N : Nat} {r : Nat → Nat}
/-- nothing is drafted yet -/
def PZ : zPl := (0, fun _ => 0, fun _ => 0, fun _ => 0, 9, 0, fun _ _ => 0, fun _ => [])
theorem PZ_ok : pOK PZ := ⟨Nat.zero_le _, fun f hf => absurd hf (Nat.not_lt_zero f), fun f hf => absurd hf (Nat.not_lt_zero f), Nat.zero_le _, fun e he => absurd he (Nat.not_lt_zero e), Or.inr rfl, fun _ => rfl⟩
theorem PZ_nm : nmOK PZ := fun f hf => absurd hf (Nat.not_lt_zero f)
def wRx (c k : Nat) : Prop := wRd c k ∨ (c = 42 ∧ k = 2)
theorem wRd_2 : ¬ wRd 42 2 := by unfold wRd; omega
theorem wRd_x (a : mwl wRd g h) : mwl wRx g h := mwl_le (fun c k q => Or.inl q) a
theorem rd_text (hT : cTp tn tb g) : (∃ P' N' r', (pOK P' ∧ nmOK P' ∧ pn P' ≠ 0) ∧ (∃ h, nX7_readText g = some (1, h) ∧ cTp tn tb h ∧ cDf P' N' r' h ∧ fC g h) ∧ ∀ k, mTp tn tb k → ∃ h, (∀ x, jX11_read_189 0 h = some x → nX11_read k = some x) ∧ h.1 42 5 = -1 ∧ h.1 42 2 = 0 ∧ mDf P' N' r' h ∧ mwl wRx k h) ∨ ∃ t', t' ≤ tn ∧ (∃ h, nX7_readText g = some (0, h) ∧ tkA tn tb t' h ∧ fC g h) ∧ ∀ k, mTp tn tb k → ∃ h, (∀ x, jX11_read_189 1 h = some x → nX11_read k = some x) ∧ h.1 42 5 = nI t' ∧ h.1 42 2 = 0 ∧ mwl wRx k h := by
  have t4 := hT.2.1
  obtain ⟨z, ez⟩ : ∃ z, z = zi (zi (zi (zi (zi (zi g 11 0 (0 : Int32)) 11 6 (-1 : Int32)) 11 7 (0 : Int32)) 11 9 (0 : Int32)) 19 4 (0 : Int32)) 19 3 (0 : Int32) := ⟨_, rfl⟩
  have mz : mw (fun c k => c = 11 ∨ (c = 19 ∧ (k = 3 ∨ k = 4))) g z := by
    rw [ez]
    exact mw_tr (mw_zi (W := fun c k => c = 11 ∨ (c = 19 ∧ (k = 3 ∨ k = 4))) (Or.inl rfl) _ _) (mw_tr (mw_zi (W := fun c k => c = 11 ∨ (c = 19 ∧ (k = 3 ∨ k = 4))) (Or.inl rfl) _ _) (mw_tr (mw_zi (W := fun c k => c = 11 ∨ (c = 19 ∧ (k = 3 ∨ k = 4))) (Or.inl rfl) _ _) (mw_tr (mw_zi (W := fun c k => c = 11 ∨ (c = 19 ∧ (k = 3 ∨ k = 4))) (Or.inl rfl) _ _) (mw_tr (mw_zi (W := fun c k => c = 11 ∨ (c = 19 ∧ (k = 3 ∨ k = 4))) (Or.inr ⟨rfl, Or.inr rfl⟩) _ _) (mw_zi (W := fun c k => c = 11 ∨ (c = 19 ∧ (k = 3 ∨ k = 4))) (Or.inr ⟨rfl, Or.inl rfl⟩) _ _)))))
  have zf : fC g z := ⟨mw_le (fun c k q => by
    rcases q with q | ⟨q1, q2⟩
    · exact Or.inl (by unfold wCr; omega)
    · rcases q2 with q2 | q2
      · exact Or.inl (by unfold wCr; omega)
      · exact Or.inr (Or.inr ⟨q1, q2⟩)) mz, bt15_mw (fun c k q => by omega) mz⟩
  have zT := cTp_mw (fun c k q => by omega) mz hT
  have zv : ∀ c i, z.1 c i = if c = 19 ∧ i = 3 then 0 else if c = 19 ∧ i = 4 then 0 else if c = 11 ∧ i = 9 then 0 else if c = 11 ∧ i = 7 then 0 else if c = 11 ∧ i = 6 then -1 else if c = 11 ∧ i = 0 then 0 else g.1 c i := fun c i => by rw [ez]; rfl
  have zD : cDf PZ 0 (fun _ => 0) z := by
    refine ⟨?_, fun f hf => absurd hf (Nat.not_lt_zero f), fun f hf => absurd hf (Nat.not_lt_zero f), fun f hf => absurd hf (Nat.not_lt_zero f), ?_, ?_, fun e he => absurd he (Nat.not_lt_zero e), fun f hf => absurd hf (Nat.not_lt_zero f), ?_, Nat.zero_le _, fun i hi => absurd hi (Nat.not_lt_zero i)⟩
    · rw [zv]; rfl
    · rw [zv]; rfl
    · rw [zv]; rfl
    · rw [zv]; rfl
  obtain ⟨h0, w0, a0, b0⟩ := e_next (e := 0) (Nat.zero_le _) zT (by rw [zv]; rfl)
  have hD := cDf_mw (fun c k q => by omega) b0 zD
  have hF : flg PZ 0 h0 := by
    unfold flg
    rw [b0.1 19 4 (by omega), zv]
    exact ⟨fun _ => ⟨rfl, rfl, rfl⟩, fun _ => rfl⟩
  have f0 : fC g h0 := fC_tr zf (fC_Cr (mw_le (fun c k q => by unfold wCr; omega) b0))
  have go : nX7_readText g = wh wX7_readText_23 (nI 0, h0) := by
    unfold nX7_readText nX6_clear_d
    rw [Option.bind_some, ← ez, w0, Option.bind_some]
    rfl
  have ref : ∀ k, mTp tn tb k → ∃ y, nX11_read k = wh wX11_read_43 y ∧ rdX tn tb 0 y ∧ y.1 42 5 = -1 ∧ y.1 42 2 = 0 ∧ mDf PZ 0 (fun _ => 0) y ∧ mwl wRx k y := fun k kT => by
    obtain ⟨y, ey⟩ : ∃ y, y = zi (zi (zi (zi (zi (zi (zi (zi k 42 3 (k.1 42 2)) 42 2 (0 : Int32)) 42 4 (0 : Int32)) 42 5 (-1 : Int32)) 42 6 (0 : Int32)) 42 7 (0 : Int32)) 42 8 (0 : Int32)) 42 9 (-1 : Int32) := ⟨_, rfl⟩
    have yv : ∀ c i, y.1 c i = if c = 42 ∧ i = 9 then -1 else if c = 42 ∧ i = 8 then 0 else if c = 42 ∧ i = 7 then 0 else if c = 42 ∧ i = 6 then 0 else if c = 42 ∧ i = 5 then -1 else if c = 42 ∧ i = 4 then 0 else if c = 42 ∧ i = 2 then 0 else if c = 42 ∧ i = 3 then k.1 42 2 else k.1 c i := fun c i => by rw [ey]; rfl
    refine ⟨y, by unfold nX11_read; rw [← ey], ⟨⟨?_, fun i hi => ?_, t4, fun i hi => (hT.2.2 i hi).2⟩, ?_, Nat.zero_le _, trivial⟩, ?_, ?_, ⟨?_, ?_, ?_, ?_, fun f hf => absurd hf (Nat.not_lt_zero f), fun f hf => absurd hf (Nat.not_lt_zero f), fun f hf => absurd hf (Nat.not_lt_zero f), fun f hf => absurd hf (Nat.not_lt_zero f), fun e he => absurd he (Nat.not_lt_zero e), fun i hi => absurd hi (Nat.not_lt_zero i)⟩, fun c i hc => ?_, fun c _ => by rw [ey]; rfl, by rw [ey]; rfl⟩
    · rw [yv]; exact kT.1
    · rw [yv]; exact kT.2 i hi
    · rw [yv]; rfl
    · rw [yv]; rfl
    · rw [yv]; rfl
    · rw [yv]; rfl
    · rw [yv]; rfl
    · rw [yv]; rfl
    · rw [yv]; rfl
    · unfold wRx wRd at hc
      rw [yv, if_neg (by omega), if_neg (by omega), if_neg (by omega), if_neg (by omega), if_neg (by omega), if_neg (by omega), if_neg (by omega), if_neg (by omega)]
  have main := rd_both (tn + 1) (sk tn tb 0) PZ 0 (fun _ => 0) 0 h0 (by omega) (Nat.zero_le _) PZ_ok PZ_nm a0 hD hF
  rcases main with ⟨P', N', r', d1, ⟨h3, d2, d3, d4, d5⟩, d6⟩ | ⟨t', d1, ⟨h3, d2, d3, d4⟩, d6⟩
  · refine Or.inl ⟨P', N', r', d1, ⟨h3, by rw [go]; exact d2, d3, d4, fC_tr f0 d5⟩, fun k kT => ?_⟩
    obtain ⟨y, u1, u2, u3, u4, u5, u6⟩ := ref k kT
    obtain ⟨q, v1, v2, v3, v4⟩ := d6 y 0 u2 rfl u3 u5
    exact ⟨q, fun x e => by rw [u1]; exact v1 x e, v2, by rw [v4.1 42 2 wRd_2]; exact u4, v3, mwl_tr u6 (wRd_x v4)⟩
  · refine Or.inr ⟨t', d1, ⟨h3, by rw [go]; exact d2, d3, fC_tr f0 d4⟩, fun k kT => ?_⟩
    obtain ⟨y, u1, u2, u3, u4, u5, u6⟩ := ref k kT
    obtain ⟨q, v1, v2, v4⟩ := d6 y 0 u2 rfl u3 u5
    exact ⟨q, fun x e => by rw [u1]; exact v1 x e, v2, by rw [v4.1 42 2 wRd_2]; exact u4, mwl_tr u6 (wRd_x v4)⟩
end Tx
