
/-! ===== all calls; the first state ===== -/
section Al
variable {g h : zS}
theorem ite_ex {c : Prop} [Decidable c] {x y : Option zS} (h1 : c → ∃ r, x = some r ∧ Iv r) (h2 : ¬ c → ∃ r, y = some r ∧ Iv r) : ∃ r, (if c then x else y) = some r ∧ Iv r := by
  by_cases q : c
  · rw [if_pos q]; exact h1 q
  · rw [if_neg q]; exact h2 q
theorem iv_step (v : Int32) (a : Nat → Int32) (g : zS) (hv : Iv g) : ∃ r, nSt v a g = some r ∧ Iv r := by
  unfold nSt
  refine ite_ex (fun _ => su_0 a hv) (fun _ => ?_)
  refine ite_ex (fun _ => su_1 a hv) (fun _ => ?_)
  refine ite_ex (fun _ => su_2 a hv) (fun _ => ?_)
  refine ite_ex (fun _ => su_3 a hv) (fun _ => ?_)
  refine ite_ex (fun _ => su_4 a hv) (fun _ => ?_)
  refine ite_ex (fun _ => su_5 a hv) (fun _ => ?_)
  refine ite_ex (fun _ => su_6 a hv) (fun _ => ?_)
  refine ite_ex (fun _ => su_7 a hv) (fun _ => ?_)
  refine ite_ex (fun _ => su_8 a hv) (fun _ => ?_)
  refine ite_ex (fun _ => su_9 a hv) (fun _ => ?_)
  refine ite_ex (fun _ => su_10 a hv) (fun _ => ?_)
  refine ite_ex (fun _ => su_11 a hv) (fun _ => ?_)
  refine ite_ex (fun _ => su_12 a hv) (fun _ => ?_)
  refine ite_ex (fun _ => su_13 a hv) (fun _ => ?_)
  refine ite_ex (fun _ => su_14 a hv) (fun _ => ?_)
  refine ite_ex (fun _ => su_15 a hv) (fun _ => ?_)
  refine ite_ex (fun _ => su_16 a hv) (fun _ => ?_)
  refine ite_ex (fun _ => su_17 a hv) (fun _ => ?_)
  refine ite_ex (fun _ => su_18 a hv) (fun _ => ?_)
  refine ite_ex (fun _ => su_19 a hv) (fun _ => ?_)
  refine ite_ex (fun _ => su_20 a hv) (fun _ => ?_)
  refine ite_ex (fun _ => su_21 a hv) (fun _ => ?_)
  refine ite_ex (fun _ => su_22 a hv) (fun _ => ?_)
  refine ite_ex (fun _ => su_23 a hv) (fun _ => ?_)
  refine ite_ex (fun _ => su_24 a hv) (fun _ => ?_)
  refine ite_ex (fun _ => su_25 a hv) (fun _ => ?_)
  refine ite_ex (fun _ => su_26 a hv) (fun _ => ?_)
  refine ite_ex (fun _ => su_27 a hv) (fun _ => ?_)
  refine ite_ex (fun _ => su_28 a hv) (fun _ => ?_)
  refine ite_ex (fun _ => su_29 a hv) (fun _ => ?_)
  refine ite_ex (fun _ => su_30 a hv) (fun _ => ?_)
  refine ite_ex (fun _ => su_31 a hv) (fun _ => ?_)
  refine ite_ex (fun _ => su_32 a hv) (fun _ => ?_)
  refine ite_ex (fun _ => su_33 a hv) (fun _ => ?_)
  refine ite_ex (fun _ => su_34 a hv) (fun _ => ?_)
  refine ite_ex (fun _ => s_35 a hv) (fun _ => ?_)
  refine ite_ex (fun _ => su_36 a hv) (fun _ => ?_)
  refine ite_ex (fun _ => su_37 a hv) (fun _ => ?_)
  refine ite_ex (fun _ => su_38 a hv) (fun _ => ?_)
  refine ite_ex (fun _ => su_39 a hv) (fun _ => ?_)
  refine ite_ex (fun _ => su_40 a hv) (fun _ => ?_)
  refine ite_ex (fun _ => su_41 a hv) (fun _ => ?_)
  refine ite_ex (fun _ => su_42 a hv) (fun _ => ?_)
  refine ite_ex (fun _ => su_43 a hv) (fun _ => ?_)
  refine ite_ex (fun _ => su_44 a hv) (fun _ => ?_)
  refine ite_ex (fun _ => su_45 a hv) (fun _ => ?_)
  refine ite_ex (fun _ => su_46 a hv) (fun _ => ?_)
  refine ite_ex (fun _ => su_47 a hv) (fun _ => ?_)
  refine ite_ex (fun _ => su_48 a hv) (fun _ => ?_)
  exact ⟨g, rfl, hv⟩
theorem iv_len (hv : Iv g) : g.2.2.2 ≤ 2097152 := by
  obtain ⟨S, hc, _⟩ := hv
  rcases hc.2.2.2.2.2.2 with h | h
  · exact h.2.2
  · exact h.2.2.2.2.1
def P0 : zPl := (0, fun _ => 0, fun _ => 0, fun _ => 0, 9, 0, fun _ _ => 0, fun _ => [])
def zFst : zS := zi (zi (zi (zi (zi (zi (zi (zi (zi (zi (zi (zi zS0 3 6 (-1 : Int32)) 11 6 (-1 : Int32)) 0 11 (0 : Int32)) 0 12 (-1 : Int32)) 42 5 (-1 : Int32)) 42 19 (-1 : Int32)) 58 ((0 : Int32)).toNatClampNeg (625 : Int32)) 58 ((1 : Int32)).toNatClampNeg (125 : Int32)) 58 ((2 : Int32)).toNatClampNeg (25 : Int32)) 58 ((3 : Int32)).toNatClampNeg (5 : Int32)) 58 ((4 : Int32)).toNatClampNeg (1 : Int32)) 42 29 (-1 : Int32)
theorem P0_ok : pOK P0 := ⟨Nat.zero_le _, fun f hf => absurd hf (Nat.not_lt_zero f), fun f hf => absurd hf (Nat.not_lt_zero f), Nat.zero_le _, fun e he => absurd he (Nat.not_lt_zero e), Or.inr rfl, fun _ => rfl⟩
theorem zFst_M : mP P0 zFst := by
  refine ⟨rfl, rfl, rfl, fun f hf => absurd hf (Nat.not_lt_zero f), fun f hf => absurd hf (Nat.not_lt_zero f), fun f hf => absurd hf (Nat.not_lt_zero f), fun e he => absurd he (Nat.not_lt_zero e), fun f hf => ?_⟩
  have hc : f = 0 ∨ f = 1 ∨ f = 2 ∨ f = 3 ∨ f = 4 := by omega
  rcases hc with rfl | rfl | rfl | rfl | rfl <;> rfl
theorem iv_first : ∃ σl, nX11_lays zFst = some σl ∧ Iv (zlr σl 72 (fun _ => 0)) ∧ σl.2.2.2 = 64 := by
  obtain ⟨h, w, hF, a⟩ := m_lays P0_ok zFst_M
  have e : ∀ c, c ≠ 56 → c ≠ 57 → h.1 c = (zi zFst 42 29 (-1)).1 c := fun c h1 h2 => (a.1 c (by
    unfold kLy
    rw [Bool.or_eq_false_iff, beq_eq_false_iff_ne, beq_eq_false_iff_ne]
    exact ⟨h1, h2⟩)).1
  have el : h.2.2.2 = 64 := a.2.2
  refine ⟨h, w, ⟨(P0, (0, fun _ => 0, 0, fun _ => 0, fun _ _ => 0), 0, fun _ => 0, 0, fun _ => 0, 999), ?_, ?_⟩, el⟩
  · refine ⟨P0_ok, ⟨⟨?_, fun f hf => absurd hf (Nat.not_lt_zero f), fun f hf => absurd hf (Nat.not_lt_zero f), fun f hf => absurd hf (Nat.not_lt_zero f), ?_, ?_, fun e he => absurd he (Nat.not_lt_zero e), fun f hf => absurd hf (Nat.not_lt_zero f)⟩, fun f hf => absurd hf (Nat.not_lt_zero f), fun q => absurd rfl q, ⟨fun _ => 0, fun k hk => ⟨?_, Nat.zero_lt_one⟩, fun S hS => ⟨0, Nat.zero_lt_one, ?_⟩, fun i j hij hj => ?_⟩, ?_, a.2.1 (Nat.zero_le _)⟩, ⟨⟨?_, Nat.zero_le _, fun k hk => absurd hk (Nat.not_lt_zero k)⟩, ⟨?_, Nat.zero_le _, fun k hk => absurd hk (Nat.not_lt_zero k)⟩, fun _ => ⟨rfl, fun p hp => absurd hp (Nat.not_lt_zero p)⟩⟩, ⟨?_, Nat.zero_le _, fun k hk => absurd hk (Nat.not_lt_zero k)⟩, ⟨?_, Nat.zero_le _, fun k hk => absurd hk (Nat.not_lt_zero k), fun k hk => ?_⟩, ?_, Or.inl ⟨?_, ?_, ?_⟩⟩
    · show h.1 3 0 = _
      rw [e 3 (by decide) (by decide)]; rfl
    · show h.1 3 6 = _
      rw [e 3 (by decide) (by decide)]; rfl
    · show h.1 3 7 = _
      rw [e 3 (by decide) (by decide)]; rfl
    · have hk' : k < 1 := hk
      have : k = 0 := by omega
      subst this
      show h.1 22 0 = _
      rw [e 22 (by decide) (by decide)]; rfl
    · have hS' : S < 1 := hS
      show 0 = S
      omega
    · have hj' : j < 1 := hj
      omega
    · show h.1 20 6 = _
      rw [e 20 (by decide) (by decide)]; rfl
    · show h.1 31 1 = _
      rw [e 31 (by decide) (by decide)]; rfl
    · show h.1 31 2 = _
      rw [e 31 (by decide) (by decide)]; rfl
    · show h.1 1 1 = _
      rw [e 1 (by decide) (by decide)]; rfl
    · show h.1 0 11 = _
      rw [e 0 (by decide) (by decide)]; rfl
    · show fits .byte (.int (h.1 15 k)) = true
      rw [e 15 (by decide) (by decide)]; rfl
    · show h.1 0 12 = _
      rw [e 0 (by decide) (by decide)]; rfl
    · show h.1 26 4 = _
      rw [e 26 (by decide) (by decide)]; rfl
    · show 64 ≤ h.2.2.2
      omega
    · show h.2.2.2 ≤ 2097152
      omega
  · have e42 := e 42 (by decide) (by decide)
    refine ⟨⟨⟨?_, ?_, ?_, fun f hf => absurd hf (Nat.not_lt_zero f), fun f hf => absurd hf (Nat.not_lt_zero f), fun f hf => absurd hf (Nat.not_lt_zero f), fun e he => absurd he (Nat.not_lt_zero e), fun f hf => ?_⟩, hF, fun f hf => absurd hf (Nat.not_lt_zero f), Or.inl ?_⟩, ⟨⟨?_, Nat.zero_le _, fun k hk => absurd hk (Nat.not_lt_zero k)⟩, ⟨?_, Nat.zero_le _, fun k hk => absurd hk (Nat.not_lt_zero k)⟩⟩, ⟨?_, fun k hk => absurd hk (Nat.not_lt_zero k)⟩, ⟨?_, fun k hk => absurd hk (Nat.not_lt_zero k)⟩, ?_⟩
    · show h.1 42 16 = _
      rw [e42]; rfl
    · show h.1 42 17 = _
      rw [e42]; rfl
    · show h.1 42 19 = _
      rw [e42]; rfl
    · show h.1 58 f = _
      rw [e 58 (by decide) (by decide)]
      have hc : f = 0 ∨ f = 1 ∨ f = 2 ∨ f = 3 ∨ f = 4 := by omega
      rcases hc with rfl | rfl | rfl | rfl | rfl <;> rfl
    · show h.1 42 29 = _
      rw [e42]; rfl
    · show h.1 42 18 = _
      rw [e42]; rfl
    · show h.1 42 32 = _
      rw [e42]; rfl
    · show h.1 42 2 = _
      rw [e42]; rfl
    · show h.1 42 46 = _
      rw [e42]; rfl
    · show h.1 42 5 = _
      rw [e42]; rfl
/-- an invariant that every call keeps -/
theorem iv_most : ∃ Iv : zS → Prop, (∀ g, Iv g → g.2.2.2 ≤ 2097152) ∧ (∀ (a : Nat → Int32) (g : zS), Iv g → ∃ r, nSt (a 0 &&& 63) a g = some r ∧ Iv r) ∧ ∃ σl, nX11_lays (zi (zi (zi (zi (zi (zi (zi (zi (zi (zi (zi (zi zS0 3 6 (-1 : Int32)) 11 6 (-1 : Int32)) 0 11 (0 : Int32)) 0 12 (-1 : Int32)) 42 5 (-1 : Int32)) 42 19 (-1 : Int32)) 58 ((0 : Int32)).toNatClampNeg (625 : Int32)) 58 ((1 : Int32)).toNatClampNeg (125 : Int32)) 58 ((2 : Int32)).toNatClampNeg (25 : Int32)) 58 ((3 : Int32)).toNatClampNeg (5 : Int32)) 58 ((4 : Int32)).toNatClampNeg (1 : Int32)) 42 29 (-1 : Int32)) = some σl ∧ Iv (zlr σl 72 (fun _ => 0)) ∧ σl.2.2.2 = 64 := ⟨Iv, fun _ h => iv_len h, fun a g hv => iv_step _ a g hv, iv_first⟩
end Al
