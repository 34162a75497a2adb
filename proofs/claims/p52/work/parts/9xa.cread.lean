
/-! ===== read, the class alone: lines one after another ===== -/
section Ca
variable {S : zSt} {g h k : zS} {tn : Nat} {tb : Nat → Nat} {s p t : Nat} {P : zPl} {N : Nat} {r : Nat → Nat}
/-- a line that is well: the token behind it and the draft -/
def lnP (tn : Nat) (tb : Nat → Nat) (s : Nat) (P : zPl) (N : Nat) (r : Nat → Nat) (t' : Nat) (P' : zPl) (N' : Nat) (r' : Nat → Nat) : Prop :=
  (wd tn tb s = wdL 0 ∧ pm P = 0 ∧ N = 0 ∧ pg P = 9 ∧ pn P < 5 ∧ ∃ q w sc, fdR P tn tb (sk tn tb (te tn tb s)) = .inl (t', q, w, sc) ∧ P' = wF P q w sc (wd tn tb (sk tn tb (te tn tb s))) ∧ N' = 0 ∧ r' = r)
  ∨ (wd tn tb s = wdL 4 ∧ pn P ≠ 0 ∧ pg P = 9 ∧ told tn tb P (sk tn tb (te tn tb s)) < pn P ∧ t' = sk tn tb (te tn tb (sk tn tb (te tn tb s))) ∧ P' = wG P (told tn tb P (sk tn tb (te tn tb s))) ∧ N' = N ∧ r' = r)
  ∨ (wd tn tb s = wdL 5 ∧ pn P ≠ 0 ∧ pm P < 6 ∧ ∃ V', edR P tn tb 6 (sk tn tb (te tn tb s)) 0 (aV P) = .inl (t', V') ∧ P' = wE P V' ∧ N' = N ∧ r' = r)
  ∨ (wd tn tb s = wdL 8 ∧ pn P ≠ 0 ∧ N < 40 ∧ ∃ c', rowR P tn tb (pn P) 0 (sk tn tb (te tn tb s)) 0 = .inl (t', c') ∧ P' = P ∧ N' = N + 1 ∧ r' = upA r N c')
def lnO (tn : Nat) (tb : Nat → Nat) (s : Nat) (g : zS) (t' : Nat) (P' : zPl) (N' : Nat) (r' : Nat → Nat) : Prop := (s < t' ∧ t' ≤ tn ∧ pOK P' ∧ nmOK P' ∧ pn P' ≠ 0) ∧ ∃ h, nX7_readLine g = some (1, h) ∧ tkA tn tb t' h ∧ cDf P' N' r' h ∧ flg P' N' h ∧ fC g h
theorem c_line0 (hO : pOK P) (hn : nmOK P) (hst : s < tn) (hA : tkA tn tb s g) (hD : cDf P 0 r g) (hF : flg P 0 g) (hw : wd tn tb s = wdL 0) (c1 : pm P = 0) (c3 : pg P = 9) (c4 : pn P < 5) {t' q w sc : Nat} (hf : fdR P tn tb (sk tn tb (te tn tb s)) = .inl (t', q, w, sc)) : lnO tn tb s g t' (wF P q w sc (wd tn tb (sk tn tb (te tn tb s)))) 0 r := by
  have e900 := e_isWord_900 hA
  rw [if_pos hw] at e900
  have f0 : g.1 19 4 = 0 := hF.mpr ⟨c1, rfl, c3⟩
  have go : nX7_readLine g = (nX7_readField g).bind fun v8 => if v8.1 = 0 then (some (((0 : Int32), v8.2))) else (some (((1 : Int32), v8.2))) := by
    unfold nX7_readLine
    rw [e900, Option.bind_some, if_neg n01, if_pos f0, hD.1, if_neg (show ¬ (5 : Int32) ≤ nI (pn P) from fun e => by have := (nN_le (a := 5) (by omega) (by omega)).mp e; omega)]
  obtain ⟨i1, i2⟩ := e_readField hO hn c4 c1 hA hD
  have n1 := nx_ge (tb := tb) (Nat.le_of_lt hst)
  obtain ⟨h, wq, x1, x2, x3, x4, x5, x6, x7, x8⟩ := i1 t' q w sc hf
  obtain ⟨y1, y2, y3, y4⟩ := fdR_ge (t := nx tn tb s) n1.2.1 hf
  have hnm := isNm_iff.mp y3
  have hl := wd_len (tn := tn) (tb := tb) (nx tn tb s)
  refine ⟨⟨by have := n1.2.2 hst; omega, y2, wF_ok hO c4 c1 c3 x3 x4 x5 x6 x7 (show (wd tn tb (nx tn tb s)).length ≤ 6 by omega) (fun c hc => wd_mem hc), wF_nm hn (show 0 < (wd tn tb (nx tn tb s)).length by omega) hnm.2, Nat.succ_ne_zero _⟩, h, ?_, x1, x2, ?_, fC_Cs x8⟩
  · rw [go, wq, Option.bind_some, if_neg n01]
  · unfold flg
    rw [x8.1.1 19 4 (fun w => by unfold wCs wCr at w; omega)]
    exact hF
theorem c_line (hO : pOK P) (hn : nmOK P) (hst : s < tn) (hA : tkA tn tb s g) (hD : cDf P N r g) (hF : flg P N g) {t' : Nat} {P' : zPl} {N' : Nat} {r' : Nat → Nat} (hl : lnP tn tb s P N r t' P' N' r') : lnO tn tb s g t' P' N' r' := by
  rcases hl with ⟨hw, c1, c2, c3, c4, q, w, sc, hf, rfl, rfl, rfl⟩ | hl
  · subst c2
    exact c_line0 hO hn hst hA hD hF hw c1 c3 c4 hf
  have hp5 := hO.1
  have hm6 := hO.2.2.2.1
  have hN := hD.2.2.2.2.2.2.2.2.2.1
  have n1 := nx_ge (tb := tb) (Nat.le_of_lt hst)
  have n2 := nx_ge (tb := tb) n1.2.1
  have hw : wd tn tb s ≠ wdL 0 := by
    rcases hl with hl | hl | hl
    · rw [hl.1]; decide
    · rw [hl.1]; decide
    · rw [hl.1]; decide
  have hp0 : pn P ≠ 0 := by
    rcases hl with hl | hl | hl
    · exact hl.2.1
    · exact hl.2.1
    · exact hl.2.1
  have e900 := e_isWord_900 hA
  rw [if_neg hw] at e900
  obtain ⟨z, ez⟩ : ∃ z, z = zi g 19 4 (1 : Int32) := ⟨_, rfl⟩
  have mz : mw (fun c k => c = 19 ∧ k = 4) g z := by rw [ez]; exact mw_zi ⟨rfl, rfl⟩ _ _
  have zA : tkA tn tb s z := ⟨cTp_mw (fun c k q => by omega) mz hA.1, hA.2.1, by rw [mz.1 19 2 (by omega)]; exact hA.2.2.1, by rw [mz.1 19 3 (by omega)]; exact hA.2.2.2⟩
  have zD := cDf_mw (fun c k q => by omega) mz hD
  have zl : fC g z := fC_4 mz
  have z4 : z.1 19 4 = 1 := by rw [ez, zi_at]
  have hflg : ∀ {P' : zPl} {N' : Nat} {h : zS}, mw wCr z h → ¬ (pm P' = 0 ∧ N' = 0 ∧ pg P' = 9) → flg P' N' h := fun {P' N' h} a b => by
    unfold flg
    rw [a.1 19 4 (fun w => wCr_4 _ _ w ⟨rfl, rfl⟩), z4]
    exact ⟨fun e => absurd e n01, fun e => absurd e b⟩
  have go : nX7_readLine g = ((nX7_isWord_904 z).bind fun v2 => if v2 = 0 then ((nX7_isWord_905 z).bind fun v3 => if v3 = 0 then ((nX7_isWord_908 z).bind fun v4 => if v4 = 0 then (some (((0 : Int32), z))) else (if (40 : Int32) ≤ (z.1 11 9) then (some (((0 : Int32), z))) else ((nX7_readRow z).bind fun v5 => if v5.1 = 0 then (some (((0 : Int32), v5.2))) else (some (((1 : Int32), v5.2)))))) else (if (6 : Int32) ≤ (z.1 11 7) then (some (((0 : Int32), z))) else ((nX7_readEdit z).bind fun v6 => if v6.1 = 0 then (some (((0 : Int32), v6.2))) else (some (((1 : Int32), v6.2)))))) else (if (z.1 11 6) = (-1 : Int32) then ((nX7_readGroup z).bind fun v7 => if v7.1 = 0 then (some (((0 : Int32), v7.2))) else (some (((1 : Int32), v7.2)))) else (some (((0 : Int32), z))))) := by
    unfold nX7_readLine
    rw [e900, Option.bind_some, if_pos rfl, hD.1, if_neg (fun e => hp0 ((nN_eq0 (by omega)).mp e)), ez]
  rw [e_isWord_904 zA, Option.bind_some] at go
  rcases hl with ⟨q4, _, c, d, y1, y2, y3, y4⟩ | ⟨q5, _, c, V', hf, y2, y3, y4⟩ | ⟨q8, _, c, c', hf, y2, y3, y4⟩
  · rw [y1, y2, y3, y4]
    rw [if_pos q4, if_neg n01, zD.2.2.2.2.1] at go
    rw [if_pos ((gI_9 (pg_le hO)).mpr c)] at go
    obtain ⟨i1, i2⟩ := e_readGroup hO hn zA zD
    obtain ⟨h, w, x1, x2, x3⟩ := i1 d
    rw [w, Option.bind_some, if_neg n01] at go
    refine ⟨⟨show s < nx tn tb (nx tn tb s) by have := n1.2.2 hst; omega, n2.2.1, wG_ok hO d, hn, hp0⟩, h, go, x1, x2, hflg x3 (fun e => ?_), fC_tr zl (fC_Cr x3)⟩
    have e3 : told tn tb P (sk tn tb (te tn tb s)) = 9 := e.2.2
    omega
  · rw [y2, y3, y4]
    rw [if_neg (show wd tn tb s ≠ wdL 4 by rw [q5]; decide), if_pos rfl, e_isWord_905 zA, Option.bind_some] at go
    rw [if_pos q5, if_neg n01, zD.2.2.2.2.2.1] at go
    rw [if_neg (show ¬ (6 : Int32) ≤ nI (pm P) from fun e => by have := (nN_le (a := 6) (by omega) (by omega)).mp e; omega)] at go
    obtain ⟨i1, i2⟩ := e_readEdit hO hn c hp0 zA zD
    obtain ⟨h, w, x1, x2, x3, x4⟩ := i1 t' V' hf
    have y := edR_ge (tb := tb) 6 (nx tn tb s) 0 (aV P) n1.2.1 hf
    rw [w, Option.bind_some, if_neg n01] at go
    refine ⟨⟨by have := n1.2.2 hst; omega, y.2, wE_ok hO c hp0 x3, hn, hp0⟩, h, go, x1, x2, hflg x4 (fun e => ?_), fC_tr zl (fC_Cr x4)⟩
    have e1 : pm P + 1 = 0 := e.1
    omega
  · rw [y2, y3, y4]
    rw [if_neg (show wd tn tb s ≠ wdL 4 by rw [q8]; decide), if_pos rfl, e_isWord_905 zA, Option.bind_some] at go
    rw [if_neg (show wd tn tb s ≠ wdL 5 by rw [q8]; decide), if_pos rfl, e_isWord_908 zA, Option.bind_some] at go
    rw [if_pos q8, if_neg n01, zD.2.2.2.2.2.2.2.2.1] at go
    rw [if_neg (show ¬ (40 : Int32) ≤ nI N from fun e => by have := (nN_le (a := 40) (by omega) (by omega)).mp e; omega)] at go
    obtain ⟨i1, i2⟩ := e_readRow hO c zA zD
    obtain ⟨h, w, x1, x2, x4⟩ := i1 t' c' hf
    have y := rowR_ge (tb := tb) (P := P) (pn P) 0 (nx tn tb s) 0 n1.2.1 hf
    rw [w, Option.bind_some, if_neg n01] at go
    exact ⟨⟨by have := n1.2.2 hst; omega, y.2, hO, hn, hp0⟩, h, go, x1, x2, hflg x4 (fun e => by omega), fC_tr zl (fC_Cr x4)⟩
/-- n lines from the token s on, to the text's end -/
def rdP (tn : Nat) (tb : Nat → Nat) : Nat → Nat → zPl → Nat → (Nat → Nat) → zPl → Nat → (Nat → Nat) → Prop
  | 0, s, P, N, r, P', N', r' => ¬ s < tn ∧ P' = P ∧ N' = N ∧ r' = r
  | n + 1, s, P, N, r, P', N', r' => s < tn ∧ ∃ t1 P1 N1 r1, lnP tn tb s P N r t1 P1 N1 r1 ∧ chr tn tb t1 = 59 ∧ rdP tn tb n (sk tn tb (t1 + 1)) P1 N1 r1 P' N' r'
theorem c_lines {P' : zPl} {N' : Nat} {r' : Nat → Nat} : ∀ (n s : Nat) (P : zPl) (N : Nat) (r : Nat → Nat) (j : Nat) (g : zS), rdP tn tb n s P N r P' N' r' → pn P' ≠ 0 → j ≤ s → pOK P → nmOK P → tkA tn tb s g → cDf P N r g → flg P N g → (pOK P' ∧ nmOK P') ∧ ∃ h, wh wX7_readText_23 (nI j, g) = some (1, h) ∧ cTp tn tb h ∧ cDf P' N' r' h ∧ fC g h
  | 0, s, P, N, r, j, g, hr, hp, hj, hO, hn, hA, hD, hF => by
    obtain ⟨hst, rfl, rfl, rfl⟩ := hr
    have hp5 := hO.1
    have t4 := hA.1.2.1
    have hs := hA.2.1
    have hend : wX7_readText_23 (nI j, g) = zex (jX7_readText_68 g) := by
      unfold wX7_readText_23
      dsimp only
      by_cases q : (400 : Int32) ≤ nI j
      · rw [if_pos q]
      · rw [if_neg q, hA.1.1, hA.2.2.1, if_pos ((nN_le (by omega) (by omega)).mpr (by omega))]
    refine ⟨⟨hO, hn⟩, g, wh_out ?_, hA.1, hD, fC_rfl _⟩
    rw [hend]
    unfold jX7_readText_68
    rw [hD.1, if_neg (show ¬ nI (pn P') ≤ (0 : Int32) from fun e => hp (Nat.le_zero.mp ((nN_le (b := 0) (by omega) (by omega)).mp e)))]
    rfl
  | n + 1, s, P, N, r, j, g, hr, hp, hj, hO, hn, hA, hD, hF => by
    obtain ⟨hst, t1, P1, N1, r1, hl, q, hr⟩ := hr
    have t4 := hA.1.2.1
    have hs := hA.2.1
    have pre : wX7_readText_23 (nI j, g) = ((nX7_readLine g).bind fun v3 => if v3.1 = 0 then (zex (some (((0 : Int32), v3.2)))) else ((nX7_takes (59 : Int32) v3.2).bind fun v4 => if v4.1 = 0 then (zex (some (((0 : Int32), v4.2)))) else (some (.inl ((nI j + (1 : Int32)), v4.2))))) := by
      unfold wX7_readText_23
      dsimp only
      rw [if_neg (show ¬ (400 : Int32) ≤ nI j from fun e => by have := (nN_le (a := 400) (by omega) (by omega)).mp e; omega), hA.1.1, hA.2.2.1, if_neg (fun e => by rw [nN_le (by omega) (by omega)] at e; omega)]
    obtain ⟨⟨c1, c2, c3, c4, c5⟩, h, x1, x2, x3, x4, x5⟩ := c_line hO hn hst hA hD hF hl
    obtain ⟨i1, i2⟩ := e_takes x2 (59 : Int32)
    obtain ⟨h2, w2, y1, y2⟩ := i1 q
    obtain ⟨z1, z2⟩ := te_sign (tn := tn) (tb := tb) (t := t1) (x := 59) (fun i hi => chr_lt x2.1 hi) (by omega) (by decide) (by decide) q
    rw [z2] at y1
    have hk := sk_le (tn := tn) (tb := tb) (p := t1 + 1) z1
    have y3 : fC h h2 := fC_Cr (wT2_Cr y2)
    obtain ⟨d1, h3, d2, d3, d4, d5⟩ := c_lines n (sk tn tb (t1 + 1)) P1 N1 r1 (j + 1) h2 hr hp (by omega) c3 c4 y1 (cDf_mw (fun c k q => by unfold wT2 at q; omega) y2 x3) (flg_mw (fun c k q => by unfold wT2 at q; omega) y2 x4)
    refine ⟨d1, h3, ?_, d3, d4, fC_tr x5 (fC_tr y3 d5)⟩
    rw [← d2, ← nI_s]
    exact wh_in (by rw [pre, x1, Option.bind_some, if_neg n01, w2, Option.bind_some, if_neg n01])
theorem c_text (hT : cTp tn tb g) {n : Nat} {P' : zPl} {N' : Nat} {r' : Nat → Nat} (hr : rdP tn tb n (sk tn tb 0) PZ 0 (fun _ => 0) P' N' r') (hp : pn P' ≠ 0) : (pOK P' ∧ nmOK P') ∧ ∃ h, nX7_readText g = some (1, h) ∧ cTp tn tb h ∧ cDf P' N' r' h ∧ fC g h := by
  have t4 := hT.2.1
  obtain ⟨z, ez⟩ : ∃ z, z = zi (zi (zi (zi (zi (zi g 11 0 (0 : Int32)) 11 6 (-1 : Int32)) 11 7 (0 : Int32)) 11 9 (0 : Int32)) 19 4 (0 : Int32)) 19 3 (0 : Int32) := ⟨_, rfl⟩
  have mz : mw (fun c k => c = 11 ∨ (c = 19 ∧ (k = 3 ∨ k = 4))) g z := by
    rw [ez]
    exact mw_tr (mw_zi (W := fun c k => c = 11 ∨ (c = 19 ∧ (k = 3 ∨ k = 4))) (Or.inl rfl) _ _) (mw_tr (mw_zi (W := fun c k => c = 11 ∨ (c = 19 ∧ (k = 3 ∨ k = 4))) (Or.inl rfl) _ _) (mw_tr (mw_zi (W := fun c k => c = 11 ∨ (c = 19 ∧ (k = 3 ∨ k = 4))) (Or.inl rfl) _ _) (mw_tr (mw_zi (W := fun c k => c = 11 ∨ (c = 19 ∧ (k = 3 ∨ k = 4))) (Or.inl rfl) _ _) (mw_tr (mw_zi (W := fun c k => c = 11 ∨ (c = 19 ∧ (k = 3 ∨ k = 4))) (Or.inr ⟨rfl, Or.inr rfl⟩) _ _) (mw_zi (W := fun c k => c = 11 ∨ (c = 19 ∧ (k = 3 ∨ k = 4))) (Or.inr ⟨rfl, Or.inl rfl⟩) _ _)))))
  have zf : fC g z := ⟨mw_le (fun c k q => by
    rcases q with q | ⟨q1, q2⟩
    · exact Or.inl (by unfold wCr; omega)
    · rcases q2 with q2 | q2
      · exact Or.inl (by unfold wCr; omega)
      · exact Or.inr (Or.inr ⟨q1, q2⟩)) mz, bt15_mw (fun c k q => by omega) mz⟩
  have zT := cTp_mw (fun c k q => by omega) mz hT
  have zv : ∀ c i, z.1 c i = if c = 19 ∧ i = 3 then 0 else if c = 19 ∧ i = 4 then 0 else if c = 11 ∧ i = 9 then 0 else if c = 11 ∧ i = 7 then 0 else if c = 11 ∧ i = 6 then -1 else if c = 11 ∧ i = 0 then 0 else g.1 c i := fun c i => by rw [ez]; rfl
  have zD : cDf PZ 0 (fun _ => 0) z := by
    refine ⟨?_, fun f hf => absurd hf (Nat.not_lt_zero f), fun f hf => absurd hf (Nat.not_lt_zero f), fun f hf => absurd hf (Nat.not_lt_zero f), ?_, ?_, fun e he => absurd he (Nat.not_lt_zero e), fun f hf => absurd hf (Nat.not_lt_zero f), ?_, Nat.zero_le _, fun i hi => absurd hi (Nat.not_lt_zero i)⟩
    · rw [zv]; rfl
    · rw [zv]; rfl
    · rw [zv]; rfl
    · rw [zv]; rfl
  obtain ⟨h0, w0, a0, b0⟩ := e_next (e := 0) (Nat.zero_le _) zT (by rw [zv]; rfl)
  have hD := cDf_mw (fun c k q => by omega) b0 zD
  have hF : flg PZ 0 h0 := by
    unfold flg
    rw [b0.1 19 4 (by omega), zv]
    exact ⟨fun _ => ⟨rfl, rfl, rfl⟩, fun _ => rfl⟩
  have f0 : fC g h0 := fC_tr zf (fC_Cr (mw_le (fun c k q => by unfold wCr; omega) b0))
  have go : nX7_readText g = wh wX7_readText_23 (nI 0, h0) := by
    unfold nX7_readText nX6_clear_d
    rw [Option.bind_some, ← ez, w0, Option.bind_some]
    rfl
  obtain ⟨d1, h3, d2, d3, d4, d5⟩ := c_lines n (sk tn tb 0) PZ 0 (fun _ => 0) 0 h0 hr hp (Nat.zero_le _) PZ_ok PZ_nm a0 hD hF
  exact ⟨d1, h3, by rw [go]; exact d2, d3, d4, fC_tr f0 d5⟩
theorem c_read {tn : Nat} {tb : Nat → Nat} (hc : cI S g) (e1 : S.2.2.1 = tn) (e2 : S.2.2.2.1 = tb) {n : Nat} {P' : zPl} {N' : Nat} {r' : Nat → Nat} (hr : rdP tn tb n (sk tn tb 0) PZ 0 (fun _ => 0) P' N' r') (hp : pn P' ≠ 0) : ∃ q, nX10_read g = some (.inl (nI N'), q) ∧ cI (P', (N', r', 0, fun _ => 0, fun _ _ => 0), 0, S.2.2.2.1, S.2.2.2.2.1, S.2.2.2.2.2.1, 999) q ∧ fr kN g q := by
  obtain ⟨hO, hPn, hRw, hT, hWr, hFl, hB⟩ := id hc
  have hG : g.2.2.1 ≤ 1 := hPn.2.2.2.2.2
  have hlen : 64 ≤ g.2.2.2 ∧ g.2.2.2 ≤ 2097152 := by
    rcases hB with ⟨_, x, y⟩ | ⟨_, x⟩
    · exact ⟨x, y⟩
    · exact ⟨x.2.2.1, x.2.2.2.1⟩
  rw [e1, e2] at hT
  obtain ⟨⟨p1, p2⟩, h1, w1, c1, d1, f1⟩ := c_text hT hr hp
  have fT : fr kTx g h1 := mw_frK kTx_C f1.1
  have hb1 : bt15 h1 := f1.2 hWr.2.2.2
  have fz := tzr_fr h1 (-1)
  have hbz : bt15 (tzr h1 (-1)) := fun i hi => by rw [tzr_c _ _ (by omega)]; exact hb1 i hi
  have dz : cDf P' N' r' (tzr h1 (-1)) := cDf_mw (W := fun c _ => c ≤ 1) (fun c k q => by omega) ⟨fun c k q => by rw [tzr_c _ _ (by omega)], rfl⟩ d1
  have gz : (tzr h1 (-1)).2.2.1 ≤ 1 := fz.2.1 (fT.2.1 hG)
  have lz : (tzr h1 (-1)).2.2.2 = g.2.2.2 := by rw [fz.2.2, fT.2.2]
  obtain ⟨q, w2, b1, b2, b3, b4⟩ := e_finish p1 hp dz hbz gz (by rw [lz]; exact hlen)
  have fAll : fr kN g q := fr_tr (fr_le kN_T fT) (fr_tr (fr_le kN_T (le_Tx fz)) (fr_le kN_F b4))
  have ec : ∀ c, 2 ≤ c → kTx c = false → kFi c = false → q.1 c = g.1 c := fun c h2 k1 k2 => by rw [(b4.1 c k2).1, tzr_c _ _ h2, (fT.1 c k1).1]
  refine ⟨q, ?_, ⟨p1, b1, b2, ⟨?_, Nat.zero_le _, fun i hi => absurd hi (Nat.not_lt_zero i)⟩, ⟨?_, hWr.2.1, fun i hi => ?_, fun i hi => ?_⟩, ?_, b3⟩, fAll⟩
  · unfold nX10_read nX7_place
    rw [w1, Option.bind_some, Option.bind_some, if_neg n01]
    exact w2
  · rw [(b4.1 1 rfl).1, tzr_1]; rfl
  · rw [(b4.1 0 rfl).1, tzr_11, (show h1.1 0 11 = g.1 0 11 from f1.1.1 0 11 wCl_0)]
    exact hWr.1
  · rw [ec 41 (by omega) rfl rfl]
    exact hWr.2.2.1 i hi
  · rw [(b4.1 15 rfl).1]
    exact hbz i hi
  · rw [(b4.1 0 rfl).1, tzr_12]
    rfl
end Ca
