
/-! ===== read: one line of both ===== -/
section Lo
variable {g h k : zS} {tn : Nat} {tb : Nat → Nat} {s p t : Nat} {P : zPl} {N : Nat} {r : Nat → Nat}
/-- a line is well: the token behind it and the drafts -/
def lnW (tn : Nat) (tb : Nat → Nat) (s : Nat) (P : zPl) (N : Nat) (r : Nat → Nat) (g : zS) (t' : Nat) (P' : zPl) (N' : Nat) (r' : Nat → Nat) : Prop := (s < t' ∧ t' ≤ tn ∧ pOK P' ∧ nmOK P' ∧ pn P' ≠ 0) ∧ (∃ h, nX7_readLine g = some (1, h) ∧ tkA tn tb t' h ∧ cDf P' N' r' h ∧ flg P' N' h ∧ fC g h) ∧ ∀ k, rdX tn tb s k → k.1 42 5 = -1 → mDf P N r k → ∃ h p', lnX tn tb s k = some h ∧ rdX tn tb p' h ∧ sk tn tb p' = t' ∧ h.1 42 5 = -1 ∧ mDf P' N' r' h ∧ mwl wRd k h
/-- a line is not well: the token that is wrong -/
def lnF (tn : Nat) (tb : Nat → Nat) (s : Nat) (P : zPl) (N : Nat) (r : Nat → Nat) (g : zS) (t' : Nat) : Prop := t' ≤ tn ∧ (∃ h, nX7_readLine g = some (0, h) ∧ tkA tn tb t' h ∧ fC g h) ∧ ∀ k, rdX tn tb s k → k.1 42 5 = -1 → mDf P N r k → ∃ h, lnX tn tb s k = some h ∧ h.1 42 5 = nI t' ∧ mwl wRd k h
theorem m5l (k : zS) (x : Int32) : mwl wRd k (zi k 42 5 x) := mwl_mw (mw_zi (Or.inl ⟨rfl, Or.inr ⟨by omega, by omega⟩⟩) _ _)
theorem flg_mw {W : Nat → Nat → Prop} (q : ∀ c k, W c k → ¬ (c = 19 ∧ k = 4)) (a : mw W g h) (d : flg P N g) : flg P N h := by
  unfold flg at d ⊢
  rw [a.1 19 4 (fun w => q _ _ w ⟨rfl, rfl⟩)]
  exact d
theorem wCr_4 : ∀ c k, wCr c k → ¬ (c = 19 ∧ k = 4) := fun c k q => by unfold wCr at q; omega
theorem ln_field (hO : pOK P) (hn : nmOK P) (hst : s < tn) (hA : tkA tn tb s g) (hD : cDf P N r g) (hF : flg P N g) (hw : wd tn tb s = wdL 0) : (∃ t' P' N' r', lnW tn tb s P N r g t' P' N' r') ∨ ∃ t', lnF tn tb s P N r g t' := by
  have hp5 := hO.1
  have hN := hD.2.2.2.2.2.2.2.2.2.1
  have e900 := e_isWord_900 hA
  rw [if_pos hw] at e900
  have hln : ∀ k, lnX tn tb s k = nX11_fieldLine k := fun k => by unfold lnX; rw [if_pos hw]
  by_cases c : (pm P = 0 ∧ N = 0 ∧ pg P = 9) ∧ pn P < 5
  · obtain ⟨⟨c1, c2, c3⟩, c4⟩ := c
    subst c2
    have f0 : g.1 19 4 = 0 := hF.mpr ⟨c1, rfl, c3⟩
    have go : nX7_readLine g = (nX7_readField g).bind fun v8 => if v8.1 = 0 then (some (((0 : Int32), v8.2))) else (some (((1 : Int32), v8.2))) := by
      unfold nX7_readLine
      rw [e900, Option.bind_some, if_neg n01, if_pos f0, hD.1, if_neg (show ¬ (5 : Int32) ≤ nI (pn P) from fun e => by have := (nN_le (a := 5) (by omega) (by omega)).mp e; omega)]
    obtain ⟨i1, i2⟩ := e_readField hO hn c4 c1 hA hD
    have n1 := nx_ge (tb := tb) (Nat.le_of_lt hst)
    cases hf : fdR P tn tb (sk tn tb (te tn tb s)) with
    | inr t' =>
      obtain ⟨h, w, x1, x2⟩ := i2 t' hf
      refine Or.inr ⟨t', x1.2.1, ⟨h, ?_, x1, fC_Cs x2⟩, fun k kX k5 kD => ?_⟩
      · rw [go, w, Option.bind_some, if_pos rfl]
      · obtain ⟨h, w, x1, x2⟩ := (m_fieldLine hO hn c4 c1 c3 kX hw k5 kD).2 t' hf
        exact ⟨h, by rw [hln]; exact w, x1, x2⟩
    | inl x =>
      obtain ⟨t', q, w, sc⟩ := x
      obtain ⟨h, wq, x1, x2, x3, x4, x5, x6, x7, x8⟩ := i1 t' q w sc hf
      obtain ⟨y1, y2, y3, y4⟩ := fdR_ge (t := nx tn tb s) n1.2.1 hf
      have hnm := isNm_iff.mp y3
      have hl := wd_len (tn := tn) (tb := tb) (nx tn tb s)
      refine Or.inl ⟨t', wF P q w sc (wd tn tb (nx tn tb s)), 0, r, ⟨by have := n1.2.2 hst; omega, y2, wF_ok hO c4 c1 c3 x3 x4 x5 x6 x7 (by omega) (fun c hc => wd_mem hc), wF_nm hn (by omega) hnm.2, Nat.succ_ne_zero _⟩, ⟨h, ?_, x1, x2, ?_, fC_Cs x8⟩, fun k kX k5 kD => ?_⟩
      · rw [go, wq, Option.bind_some, if_neg n01]
      · unfold flg
        rw [x8.1.1 19 4 (fun w => by unfold wCs wCr at w; omega)]
        exact hF
      · obtain ⟨h, p', w, x1, x2, x3, x4, x5⟩ := (m_fieldLine hO hn c4 c1 c3 kX hw k5 kD).1 t' q w sc hf
        exact ⟨h, p', by rw [hln]; exact w, x1, x2, x3, x4, x5⟩
  · have go : nX7_readLine g = some (0, g) := by
      unfold nX7_readLine
      rw [e900, Option.bind_some, if_neg n01, hD.1]
      by_cases d : g.1 19 4 = 0
      · rw [if_pos d, if_pos (show (5 : Int32) ≤ nI (pn P) from (nN_le (a := 5) (by omega) (by omega)).mpr (Nat.le_of_not_lt (fun e => c ⟨hF.mp d, e⟩)))]
      · rw [if_neg d]
    refine Or.inr ⟨s, Nat.le_of_lt hst, ⟨g, go, hA, fC_rfl _⟩, fun k kX k5 kD => ⟨_, ?_, zi_at _ _ _ _, m5l k _⟩⟩
    rw [hln]
    exact m_fieldBad hO hN kX k5 kD (by
      by_cases d : pm P = 0 ∧ N = 0 ∧ pg P = 9
      · exact Or.inl (Nat.le_antisymm hp5 (Nat.le_of_not_lt (fun e => c ⟨d, e⟩)))
      · exact Or.inr d)
theorem ln_other (hO : pOK P) (hn : nmOK P) (hst : s < tn) (hA : tkA tn tb s g) (hD : cDf P N r g) (hw : wd tn tb s ≠ wdL 0) (hp0 : pn P ≠ 0) : (∃ t' P' N' r', lnW tn tb s P N r g t' P' N' r') ∨ ∃ t', lnF tn tb s P N r g t' := by
  have hp5 := hO.1
  have hm6 := hO.2.2.2.1
  have hN := hD.2.2.2.2.2.2.2.2.2.1
  have n1 := nx_ge (tb := tb) (Nat.le_of_lt hst)
  have n2 := nx_ge (tb := tb) n1.2.1
  have e900 := e_isWord_900 hA
  rw [if_neg hw] at e900
  obtain ⟨z, ez⟩ : ∃ z, z = zi g 19 4 (1 : Int32) := ⟨_, rfl⟩
  have mz : mw (fun c k => c = 19 ∧ k = 4) g z := by rw [ez]; exact mw_zi ⟨rfl, rfl⟩ _ _
  have zA : tkA tn tb s z := ⟨cTp_mw (fun c k q => by omega) mz hA.1, hA.2.1, by rw [mz.1 19 2 (by omega)]; exact hA.2.2.1, by rw [mz.1 19 3 (by omega)]; exact hA.2.2.2⟩
  have zD := cDf_mw (fun c k q => by omega) mz hD
  have zl : fC g z := fC_4 mz
  have z4 : z.1 19 4 = 1 := by rw [ez, zi_at]
  have hflg : ∀ {P' : zPl} {N' : Nat} {h : zS}, mw wCr z h → ¬ (pm P' = 0 ∧ N' = 0 ∧ pg P' = 9) → flg P' N' h := fun {P' N' h} a b => by
    unfold flg
    rw [a.1 19 4 (fun w => wCr_4 _ _ w ⟨rfl, rfl⟩), z4]
    exact ⟨fun e => absurd e n01, fun e => absurd e b⟩
  have hl0 : ∀ k, lnX tn tb s k = if wd tn tb s = wdL 4 then nX11_groupLine k else if wd tn tb s = wdL 5 then nX11_editLine k else if wd tn tb s = wdL 8 then nX11_rowLine k else nX11_wrong k := fun k => by unfold lnX; rw [if_neg hw]
  have go : nX7_readLine g = ((nX7_isWord_904 z).bind fun v2 => if v2 = 0 then ((nX7_isWord_905 z).bind fun v3 => if v3 = 0 then ((nX7_isWord_908 z).bind fun v4 => if v4 = 0 then (some (((0 : Int32), z))) else (if (40 : Int32) ≤ (z.1 11 9) then (some (((0 : Int32), z))) else ((nX7_readRow z).bind fun v5 => if v5.1 = 0 then (some (((0 : Int32), v5.2))) else (some (((1 : Int32), v5.2)))))) else (if (6 : Int32) ≤ (z.1 11 7) then (some (((0 : Int32), z))) else ((nX7_readEdit z).bind fun v6 => if v6.1 = 0 then (some (((0 : Int32), v6.2))) else (some (((1 : Int32), v6.2)))))) else (if (z.1 11 6) = (-1 : Int32) then ((nX7_readGroup z).bind fun v7 => if v7.1 = 0 then (some (((0 : Int32), v7.2))) else (some (((1 : Int32), v7.2)))) else (some (((0 : Int32), z))))) := by
    unfold nX7_readLine
    rw [e900, Option.bind_some, if_pos rfl, hD.1, if_neg (fun e => hp0 ((nN_eq0 (by omega)).mp e)), ez]
  have bad : (∀ k, rdX tn tb s k → k.1 42 5 = -1 → mDf P N r k → lnX tn tb s k = some (zi k 42 5 (nI s))) → nX7_readLine g = some (0, z) → ∃ t', lnF tn tb s P N r g t' := fun a b => ⟨s, Nat.le_of_lt hst, ⟨z, b, zA, zl⟩, fun k kX k5 kD => ⟨_, a k kX k5 kD, zi_at _ _ _ _, m5l k _⟩⟩
  rw [e_isWord_904 zA, Option.bind_some] at go
  by_cases q4 : wd tn tb s = wdL 4
  · rw [if_pos q4, if_neg n01, zD.2.2.2.2.1] at go
    by_cases c : pg P = 9
    · rw [if_pos ((gI_9 (pg_le hO)).mpr c)] at go
      have hln : ∀ k, lnX tn tb s k = nX11_groupLine k := fun k => by rw [hl0, if_pos q4]
      obtain ⟨i1, i2⟩ := e_readGroup hO hn zA zD
      by_cases d : told tn tb P (sk tn tb (te tn tb s)) < pn P
      · obtain ⟨h, w, x1, x2, x3⟩ := i1 d
        rw [w, Option.bind_some, if_neg n01] at go
        refine Or.inl ⟨nx tn tb (nx tn tb s), wG P (told tn tb P (sk tn tb (te tn tb s))), N, r, ⟨by have := n1.2.2 hst; omega, n2.2.1, wG_ok hO d, hn, hp0⟩, ⟨h, go, x1, x2, hflg x3 (fun e => ?_), fC_tr zl (fC_Cr x3)⟩, fun k kX k5 kD => ?_⟩
        · have e3 : told tn tb P (sk tn tb (te tn tb s)) = 9 := e.2.2
          omega
        · obtain ⟨h, p', w, y1, y2, y3, y4, y5⟩ := (m_groupLine hO hn kX q4 k5 c kD).1 d
          exact ⟨h, p', by rw [hln]; exact w, y1, y2, y3, y4, mwl_mw y5⟩
      · obtain ⟨h, w, x1, x3⟩ := i2 d
        rw [w, Option.bind_some, if_pos rfl] at go
        refine Or.inr ⟨nx tn tb s, n1.2.1, ⟨h, go, x1, fC_tr zl (fC_Cr x3)⟩, fun k kX k5 kD => ?_⟩
        obtain ⟨h, w, y1, y2⟩ := (m_groupLine hO hn kX q4 k5 c kD).2 d
        exact ⟨h, by rw [hln]; exact w, y1, mwl_mw y2⟩
    · rw [if_neg (fun e => c ((gI_9 (pg_le hO)).mp e))] at go
      exact Or.inr (bad (fun k kX k5 kD => by rw [hl0, if_pos q4]; exact m_groupBad hO kX k5 kD c) go)
  · rw [if_neg q4, if_pos rfl, e_isWord_905 zA, Option.bind_some] at go
    by_cases q5 : wd tn tb s = wdL 5
    · have hln : ∀ k, lnX tn tb s k = nX11_editLine k := fun k => by rw [hl0, if_neg q4, if_pos q5]
      rw [if_pos q5, if_neg n01, zD.2.2.2.2.2.1] at go
      by_cases c : pm P < 6
      · rw [if_neg (show ¬ (6 : Int32) ≤ nI (pm P) from fun e => by have := (nN_le (a := 6) (by omega) (by omega)).mp e; omega)] at go
        obtain ⟨i1, i2⟩ := e_readEdit hO hn c hp0 zA zD
        cases hf : edR P tn tb 6 (sk tn tb (te tn tb s)) 0 (aV P) with
        | inl x =>
          obtain ⟨t', V'⟩ := x
          obtain ⟨h, w, x1, x2, x3, x4⟩ := i1 t' V' hf
          have y := edR_ge (tb := tb) 6 (nx tn tb s) 0 (aV P) n1.2.1 hf
          rw [w, Option.bind_some, if_neg n01] at go
          refine Or.inl ⟨t', wE P V', N, r, ⟨by have := n1.2.2 hst; omega, y.2, wE_ok hO c hp0 x3, hn, hp0⟩, ⟨h, go, x1, x2, hflg x4 (fun e => ?_), fC_tr zl (fC_Cr x4)⟩, fun k kX k5 kD => ?_⟩
          · have e1 : pm P + 1 = 0 := e.1
            omega
          · obtain ⟨h, p', w, y1, y2, y3, y4, y5⟩ := (m_editLine hO hn c kX q5 k5 kD).1 t' V' hf
            exact ⟨h, p', by rw [hln]; exact w, y1, y2, y3, y4, mwl_mw y5⟩
        | inr t' =>
          obtain ⟨h, w, x1, x4⟩ := i2 t' hf
          rw [w, Option.bind_some, if_pos rfl] at go
          refine Or.inr ⟨t', x1.2.1, ⟨h, go, x1, fC_tr zl (fC_Cr x4)⟩, fun k kX k5 kD => ?_⟩
          obtain ⟨h, w, y1, y2⟩ := (m_editLine hO hn c kX q5 k5 kD).2 t' hf
          exact ⟨h, by rw [hln]; exact w, y1, mwl_mw y2⟩
      · rw [if_pos (show (6 : Int32) ≤ nI (pm P) from (nN_le (a := 6) (by omega) (by omega)).mpr (by omega))] at go
        exact Or.inr (bad (fun k kX k5 kD => by rw [hln]; exact m_editBad kX k5 kD (by omega)) go)
    · rw [if_neg q5, if_pos rfl, e_isWord_908 zA, Option.bind_some] at go
      by_cases q8 : wd tn tb s = wdL 8
      · have hln : ∀ k, lnX tn tb s k = nX11_rowLine k := fun k => by rw [hl0, if_neg q4, if_neg q5, if_pos q8]
        rw [if_pos q8, if_neg n01, zD.2.2.2.2.2.2.2.2.1] at go
        by_cases c : N < 40
        · rw [if_neg (show ¬ (40 : Int32) ≤ nI N from fun e => by have := (nN_le (a := 40) (by omega) (by omega)).mp e; omega)] at go
          obtain ⟨i1, i2⟩ := e_readRow hO c zA zD
          cases hf : rowR P tn tb (pn P) 0 (sk tn tb (te tn tb s)) 0 with
          | inl x =>
            obtain ⟨t', c'⟩ := x
            obtain ⟨h, w, x1, x2, x4⟩ := i1 t' c' hf
            have y := rowR_ge (tb := tb) (P := P) (pn P) 0 (nx tn tb s) 0 n1.2.1 hf
            rw [w, Option.bind_some, if_neg n01] at go
            refine Or.inl ⟨t', P, N + 1, upA r N c', ⟨by have := n1.2.2 hst; omega, y.2, hO, hn, hp0⟩, ⟨h, go, x1, x2, hflg x4 (fun e => by omega), fC_tr zl (fC_Cr x4)⟩, fun k kX k5 kD => ?_⟩
            obtain ⟨h, p', w, y1, y2, y3, y4, y5⟩ := (m_rowLine hO c kX q8 k5 kD).1 t' c' hf
            exact ⟨h, p', by rw [hln]; exact w, y1, y2, y3, y4, mwl_mw y5⟩
          | inr t' =>
            obtain ⟨h, w, x1, x4⟩ := i2 t' hf
            rw [w, Option.bind_some, if_pos rfl] at go
            refine Or.inr ⟨t', x1.2.1, ⟨h, go, x1, fC_tr zl (fC_Cr x4)⟩, fun k kX k5 kD => ?_⟩
            obtain ⟨h, w, y1, y2⟩ := (m_rowLine hO c kX q8 k5 kD).2 t' hf
            exact ⟨h, by rw [hln]; exact w, y1, mwl_mw y2⟩
        · rw [if_pos (show (40 : Int32) ≤ nI N from (nN_le (a := 40) (by omega) (by omega)).mpr (by omega))] at go
          exact Or.inr (bad (fun k kX k5 kD => by rw [hln]; exact m_rowBad kX k5 kD (by omega)) go)
      · rw [if_neg q8, if_pos rfl] at go
        exact Or.inr (bad (fun k kX k5 kD => by rw [hl0, if_neg q4, if_neg q5, if_neg q8]; exact m_wrong kX k5) go)
theorem e_lineNo (hA : tkA tn tb s g) (hD : cDf P N r g) (hw : wd tn tb s ≠ wdL 0) (hp0 : pn P = 0) : nX7_readLine g = some (0, g) := by
  unfold nX7_readLine
  rw [e_isWord_900 hA, if_neg hw, Option.bind_some, if_pos rfl, hD.1, hp0, if_pos (show nI 0 = (0 : Int32) from rfl)]
end Lo
