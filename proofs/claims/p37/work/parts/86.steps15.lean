
/-! ===== steps: mendAll, trial ===== -/
section S15
variable {S S' : zSt} {g h k : zS} {P : zPl} {N K : Nat} {r : Nat → Nat} {hN : Nat → Nat} {hr : Nat → Nat → Nat}

/-- what comes of a loop that comes to something -/
theorem wh_part {S R : Type} {step : S → Option (S ⊕ R)} (I : S → Prop) (Q : R → Prop) (h1 : ∀ s s', I s → step s = some (.inl s') → I s') (h2 : ∀ s r, I s → step s = some (.inr r) → Q r) {s : S} {r : R} (hs : I s) (h : wh step s = some r) : Q r := by
  have go : ∀ n s, I s → ∀ r, whN step n s = some r → Q r := by
    intro n
    induction n with
    | zero => intro s _ r h; cases h
    | succ n ih =>
      intro s hs r h
      unfold whN at h
      cases e : step s with
      | none => rw [e] at h; cases h
      | some o =>
        rw [e] at h
        cases o with
        | inl s' => exact ih s' (h1 s s' hs e) r h
        | inr r' =>
          have e2 : r' = r := Option.some.inj h
          rw [← e2]
          exact h2 s r' hs e
  unfold wh at h
  split at h
  · exact go _ s hs r h
  · cases h
theorem ite_or {c : Prop} [Decidable c] {α : Type} {a b : Option α} {r : α} (h : (if c then a else b) = some r) : a = some r ∨ b = some r := by
  by_cases q : c
  · rw [if_pos q] at h; exact Or.inl h
  · rw [if_neg q] at h; exact Or.inr h
/-- the cell where the reference lays what it wants to mend stands -/
def p69 (f : Nat → Int32) (o : (Int32 × zS) ⊕ zS) : Prop := match o with
  | .inl s => s.2.1 69 = f
  | .inr r => r.1 69 = f
theorem d245 {a1 a2 a3 a4 a5 a6 : Int32} {o : (Int32 × zS) ⊕ zS} {f : Nat → Int32} (hg : g.1 69 = f) (h : jX11_laysDonors_245 a1 a2 a3 a4 a5 a6 g = some o) : p69 f o := by
  unfold jX11_laysDonors_245 at h
  have h1 := (zchk_some (zchk_some (zchk_some h).2).2).2
  rw [← Option.some.inj h1]
  show (zi (zi (zi (zi g 66 _ _) 67 _ _) 68 _ _) 42 _ _).1 69 = f
  rw [zi_cell _ _ (by decide), zi_cell _ _ (by decide), zi_cell _ _ (by decide), zi_cell _ _ (by decide)]
  exact hg
theorem d172 {a1 a2 a3 a4 a5 : Int32} {s : Int32 × zS} {o : (Int32 × zS) ⊕ zS} {f : Nat → Int32} (hg : s.2.1 69 = f) (h : wh (wX11_laysDonors_172 a1 a2 a3 a4 a5) s = some o) : p69 f o := by
  refine wh_part (fun s : Int32 × zS => s.2.1 69 = f) (p69 f) (fun s s' hs h => ?_) (fun s r hs h => ?_) hg h
  · unfold wX11_laysDonors_172 at h
    rcases ite_or h with h | h
    · obtain ⟨r, _, e⟩ := zex_some h
      cases e
    · have h := (zchk_some h).2
      rcases ite_or h with h | h
      · obtain ⟨r, _, e⟩ := zex_some h
        cases e
      · have h := (zchk_some (zchk_some (zchk_some (zchk_some (zchk_some (zchk_some h).2).2).2).2).2).2
        rw [← Sum.inl.inj (Option.some.inj h)]
        show (zi (zi (zi _ 66 _ _) 67 _ _) 68 _ _).1 69 = f
        rw [zi_cell _ _ (by decide), zi_cell _ _ (by decide), zi_cell _ _ (by decide)]
        exact hs
  · unfold wX11_laysDonors_172 at h
    rcases ite_or h with h | h
    · obtain ⟨r', h, e⟩ := zex_some h
      rw [Sum.inr.inj e]
      exact d245 hs h
    · have h := (zchk_some h).2
      rcases ite_or h with h | h
      · obtain ⟨r', h, e⟩ := zex_some h
        rw [Sum.inr.inj e]
        exact d245 hs h
      · have h := (zchk_some (zchk_some (zchk_some (zchk_some (zchk_some (zchk_some h).2).2).2).2).2).2
        cases h
theorem d91 {a1 a2 a3 : Int32} {s : Int32 × Int32} {o : (Int32 × zS) ⊕ zS} {f : Nat → Int32} (hg : g.1 69 = f) (h : wh (wX11_laysDonors_91 a1 a2 a3 g) s = some o) : p69 f o := by
  refine wh_part (fun _ => True) (p69 f) (fun s s' hs h => trivial) (fun s r hs h => ?_) trivial h
  unfold wX11_laysDonors_91 at h
  rcases ite_or h with h | h
  · obtain ⟨r', h, e⟩ := zex_some h
    rw [Sum.inr.inj e]
    obtain ⟨v3, _, h⟩ := zbind h
    rcases ite_or h with h | h
    · rw [← Option.some.inj h]; exact hg
    · obtain ⟨v4, _, h⟩ := zbind h
      exact d172 (s := (g.1 42 42, g)) hg h
  · have h := (zchk_some h).2
    obtain ⟨v5, _, h⟩ := zbind h
    rcases ite_or h with h | h
    · obtain ⟨v6, _, h⟩ := zbind h
      cases h
    · obtain ⟨v7, _, h⟩ := zbind h
      cases h
theorem d13 {a1 a2 : Int32} {s : Int32 × zS} {k : zS} {f : Nat → Int32} (hg : s.2.1 69 = f) (h : wh (wX11_laysDonors_13 a1 a2) s = some k) : k.1 69 = f := by
  have key : ∀ s : Int32 × zS, s.2.1 69 = f → ∀ o, wX11_laysDonors_13 a1 a2 s = some o → p69 f o := fun s hs o h => by
    unfold wX11_laysDonors_13 at h
    rcases ite_or h with h | h
    · obtain ⟨r', h, e⟩ := zex_some h
      rw [e, ← Option.some.inj h]; exact hs
    · rcases ite_or h with h | h
      · obtain ⟨r', h, e⟩ := zex_some h
        rw [e, ← Option.some.inj h]; exact hs
      · rcases ite_or h with h | h
        · rw [← Option.some.inj h]; exact hs
        · obtain ⟨v2, _, h⟩ := zbind h
          rcases ite_or h with h | h
          · rw [← Option.some.inj h]; exact hs
          · rcases ite_or h with h | h
            · exact d91 hs h
            · obtain ⟨v8, _, h⟩ := zbind h
              rcases ite_or h with h | h
              · obtain ⟨v9, _, h⟩ := zbind h
                obtain ⟨v10, _, h⟩ := zbind h
                rcases ite_or h with h | h
                · exact d91 hs h
                · rw [← Option.some.inj h]; exact hs
              · exact d91 hs h
  exact wh_part (fun s : Int32 × zS => s.2.1 69 = f) (fun k : zS => k.1 69 = f) (fun s s' hs h => key s hs _ h) (fun s r hs h => key s hs _ h) hg h
theorem l9 {a1 : Int32} {s : Int32 × Int32 × zS} {r : Int32 × zS} {f : Nat → Int32} (hg : s.2.2.1 69 = f) (h : wh (wX11_lightest_9 a1) s = some r) : r.2.1 69 = f := by
  have k39 : ∀ {a2 a3 s0 : Int32} {g : zS} {o : (Int32 × Int32 × zS) ⊕ (Int32 × zS)}, g.1 69 = f → jX11_lightest_39 a1 a2 a3 s0 g = some o → ∃ t, o = .inl t ∧ t.2.2.1 69 = f := fun {a2 a3 s0 g o} hs h => by
    have k74 : ∀ {a4 s1 : Int32}, jX11_lightest_74 a1 a2 a3 a4 s1 g = some o → ∃ t, o = .inl t ∧ t.2.2.1 69 = f := fun {a4 s1} h => by
      have fin : ∀ {x y : Int32}, some (Sum.inl (x, y, zi g 42 36 s1) : (Int32 × Int32 × zS) ⊕ (Int32 × zS)) = some o → ∃ t, o = .inl t ∧ t.2.2.1 69 = f := fun {x y} h => ⟨_, (Option.some.inj h).symm, by
        show (zi g 42 36 s1).1 69 = f
        rw [zi_cell _ _ (by decide)]
        exact hs⟩
      unfold jX11_lightest_74 at h
      rcases ite_or h with h | h
      · exact fin h
      · obtain ⟨v4, _, h⟩ := zbind h
        obtain ⟨v5, _, h⟩ := zbind h
        rcases ite_or h with h | h
        · exact fin h
        · exact fin h
    unfold jX11_lightest_39 at h
    rcases ite_or h with h | h
    · exact ⟨_, (Option.some.inj h).symm, hs⟩
    · obtain ⟨v3, _, h⟩ := zbind h
      rcases ite_or h with h | h
      · exact ⟨_, (Option.some.inj h).symm, hs⟩
      · rcases ite_or h with h | h
        · exact k74 h
        · exact k74 h
  have key : ∀ s : Int32 × Int32 × zS, s.2.2.1 69 = f → ∀ o, wX11_lightest_9 a1 s = some o → (∃ t, o = .inl t ∧ t.2.2.1 69 = f) ∨ (∃ r, o = .inr r ∧ r.2.1 69 = f) := fun s hs o h => by
    unfold wX11_lightest_9 at h
    rcases ite_or h with h | h
    · obtain ⟨r', h, e⟩ := zex_some h
      refine Or.inr ⟨r', e, ?_⟩
      rw [← Option.some.inj h]; exact hs
    · rcases ite_or h with h | h
      · exact Or.inl (k39 hs h)
      · obtain ⟨v1, _, h⟩ := zbind h
        obtain ⟨v2, _, h⟩ := zbind h
        exact Or.inl (k39 hs h)
  refine wh_part (fun s : Int32 × Int32 × zS => s.2.2.1 69 = f) (fun r : Int32 × zS => r.2.1 69 = f) (fun s s' hs h => ?_) (fun s r hs h => ?_) hg h
  · rcases key s hs _ h with ⟨t, e, q⟩ | ⟨r, e, q⟩
    · rw [Sum.inl.inj e]; exact q
    · cases e
  · rcases key s hs _ h with ⟨t, e, q⟩ | ⟨r', e, q⟩
    · cases e
    · rw [Sum.inr.inj e]; exact q
theorem lig69 {a1 : Int32} {r : Int32 × zS} (h : nX11_lightest a1 g = some r) : r.2.1 69 = g.1 69 := l9 (by show (zi g 42 36 0).1 69 = g.1 69; rw [zi_cell _ _ (by decide)]) h
theorem don69 {a1 : Int32} {k : zS} (h : nX11_laysDonors a1 g = some k) : k.1 69 = g.1 69 := by
  unfold nX11_laysDonors at h
  obtain ⟨v1, h1, h⟩ := zbind h
  have e1 := lig69 h1
  rw [zi_cell _ _ (by decide)] at e1
  exact d13 (s := ((0 : Int32), v1.2)) e1 h
theorem mended69 {a1 a2 : Int32} {r : Int32 × zS} (h : nX11_mended a1 a2 g = some r) : r.2.1 69 = g.1 69 := by
  have k179 : ∀ {a : Int32} {k : zS} {r : Int32 × zS}, jX11_mended_179 a k = some r → r.2 = k := fun {a k r} h => by
    unfold jX11_mended_179 at h
    rw [← Option.some.inj (zchk_some h).2]
  unfold nX11_mended at h
  obtain ⟨v1, _, h⟩ := zbind h
  rcases ite_or h with h | h
  · rcases ite_or h with h | h
    · obtain ⟨v3, h3, h⟩ := zbind h
      rw [← lig69 h3]
      refine wh_part (fun _ => True) (fun r : Int32 × zS => r.2.1 69 = v3.2.1 69) (fun s s' hs h => trivial) (fun s r hs h => ?_) trivial h
      unfold wX11_mended_28 at h
      rcases ite_or h with h | h
      · obtain ⟨r', h, e⟩ := zex_some h
        rw [Sum.inr.inj e, ← Option.some.inj h]
      · rcases ite_or h with h | h
        · obtain ⟨r', h, e⟩ := zex_some h
          rw [Sum.inr.inj e, ← Option.some.inj h]
        · obtain ⟨v4, _, h⟩ := zbind h
          rcases ite_or h with h | h
          · cases h
          · obtain ⟨v5, _, h⟩ := zbind h
            rcases ite_or h with h | h
            · cases h
            · obtain ⟨r', h, e⟩ := zex_some h
              rw [Sum.inr.inj e, ← Option.some.inj h]
    · obtain ⟨v2, h2, h⟩ := zbind h
      rw [← don69 h2]
      rcases ite_or h with h | h
      · rw [← Option.some.inj h]
      · refine wh_part (fun _ => True) (fun r : Int32 × zS => r.2.1 69 = v2.1 69) (fun s s' hs h => trivial) (fun s r hs h => ?_) trivial h
        unfold wX11_mended_94 at h
        rcases ite_or h with h | h
        · obtain ⟨r', h, e⟩ := zex_some h
          rw [Sum.inr.inj e, k179 h]
        · rcases ite_or h with h | h
          · have q : ∃ t, (Sum.inr r : (Int32 × Int32 × Int32) ⊕ (Int32 × zS)) = .inl t := by
              refine wh_part (fun _ => True) (fun o : (Int32 × Int32 × Int32) ⊕ (Int32 × zS) => ∃ t, o = .inl t) (fun s s' hs h => trivial) (fun s r hs h => ?_) trivial h
              unfold wX11_mended_114 at h
              rcases ite_or h with h | h
              · obtain ⟨r', h, e⟩ := zex_some h
                rw [Sum.inr.inj e]
                rcases ite_or h with h | h
                · exact ⟨_, (Option.some.inj h).symm⟩
                · exact ⟨_, (Option.some.inj h).symm⟩
              · have h := (zchk_some (zchk_some h).2).2
                rcases ite_or h with h | h
                · cases h
                · cases h
            obtain ⟨t, e⟩ := q
            cases e
          · obtain ⟨r', h, e⟩ := zex_some h
            rw [Sum.inr.inj e, k179 h]
  · obtain ⟨v6, _, h⟩ := zbind h
    rw [← Option.some.inj h]
end S15
