
/-! ===== both at once: what holds between calls ===== -/
def fI (k : Nat) : Int32 := if k = 999 then -1 else nI k
/-- the class's tape, what it wrote, its fault -/
def cTp (tn : Nat) (tb : Nat → Nat) (g : zS) : Prop := g.1 1 1 = nI tn ∧ tn ≤ 400 ∧ ∀ k, k < tn → g.1 2 k &&& 255 = nI (tb k) ∧ tb k < 256
/-- the letters of the draft's names are bytes -/
def bt15 (g : zS) : Prop := ∀ k, k < 30 → fits .byte (.int (g.1 15 k)) = true
def cWr (wn : Nat) (wb : Nat → Nat) (g : zS) : Prop := g.1 0 11 = nI wn ∧ wn ≤ 5 ∧ (∀ k, k < wn → g.1 41 k = nI (wb k)) ∧ bt15 g
/-- a name as the reference's number -/
def nmL (l : List Nat) : Nat := l.foldl (fun a c => 32 * a + (c - 96)) 0
/-- the reference's acts -/
def mH (P : zPl) (K : Nat) (hN : Nat → Nat) (hr : Nat → Nat → Nat) (g : zS) : Prop := g.1 42 32 = nI K ∧ K ≤ 16 ∧ ∀ p, p < K → hN p ≤ 40 ∧ g.1 61 p = nI (hN p) ∧ ∀ i, i < hN p → (∀ f, f < pn P → g.1 62 (200 * p + (5 * i + f)) = nJ (rv (hr p i) f)) ∧ rOK P (hr p i)
def mTp (tn : Nat) (tb : Nat → Nat) (g : zS) : Prop := g.1 42 2 = nI tn ∧ ∀ k, k < tn → g.1 43 k = nI (tb k)
def mWr (wn : Nat) (wb : Nat → Nat) (g : zS) : Prop := g.1 42 46 = nI wn ∧ ∀ k, k < wn → g.1 71 k = nI (wb k)
def mNm (P : zPl) (g : zS) : Prop := ∀ f, f < pn P → g.2.1 50 f = (nI (nmL (pl P f))).toInt64
/-- plan; rows, history; tape, written, fault -/
abbrev zSt : Type := zPl × (Nat × (Nat → Nat) × Nat × (Nat → Nat) × (Nat → Nat → Nat)) × Nat × (Nat → Nat) × Nat × (Nat → Nat) × Nat
def cRw (P : zPl) (H : Nat × (Nat → Nat) × Nat × (Nat → Nat) × (Nat → Nat → Nat)) (g : zS) : Prop := rR P H.1 H.2.1 g ∧ cH P H.2.2.1 H.2.2.2.1 H.2.2.2.2 g ∧ (pn P = 0 → H.1 = 0 ∧ ∀ p, p < H.2.2.1 → H.2.2.2.1 p = 0)
def mRw (P : zPl) (H : Nat × (Nat → Nat) × Nat × (Nat → Nat) × (Nat → Nat → Nat)) (g : zS) : Prop := mR P H.1 H.2.1 g ∧ mH P H.2.2.1 H.2.2.2.1 H.2.2.2.2 g
/-- how many forms pass; none without fields -/
def pqs (P : zPl) : Nat := if pn P = 0 then 0 else pss P
def cPn (P : zPl) (g : zS) : Prop := cP P g ∧ cE P g ∧ (pn P ≠ 0 → cC P g) ∧ cL P g ∧ g.1 20 6 = nI (pqs P) ∧ g.2.2.1 ≤ 1
def mPn (P : zPl) (g : zS) : Prop := mP P g ∧ mF P g ∧ mNm P g ∧ (g.1 42 29 = -1 ∨ mL P 33554432 g)
def cI (S : zSt) (g : zS) : Prop := pOK S.1 ∧ cPn S.1 g ∧ cRw S.1 S.2.1 g ∧ cTp S.2.2.1 S.2.2.2.1 g ∧ cWr S.2.2.2.2.1 S.2.2.2.2.2.1 g ∧ g.1 0 12 = fI S.2.2.2.2.2.2 ∧ bKn S.1 g
def rI (S : zSt) (g : zS) : Prop := mPn S.1 g ∧ mRw S.1 S.2.1 g ∧ mTp S.2.2.1 S.2.2.2.1 g ∧ mWr S.2.2.2.2.1 S.2.2.2.2.2.1 g ∧ g.1 42 5 = fI S.2.2.2.2.2.2
/-- what holds between calls -/
def Iv (g : zS) : Prop := ∃ S, cI S g ∧ rI S g
/-- the cells that the class's queries write; what is not the class's -/
def kQ (c : Nat) : Bool := c == 24 || c == 25 || (decide (34 ≤ c) && decide (c ≤ 36)) || (decide (38 ≤ c) && decide (c ≤ 40)) || decide (42 ≤ c)
/-- what is not the reference's -/
def kN (c : Nat) : Bool := decide (c < 42) || c == 72
/-- the reference's -/
def kRf (c : Nat) : Bool := decide (42 ≤ c) && decide (c ≤ 71)
section St
variable {S : zSt} {g h : zS} {P : zPl}
theorem cPn_fr {K : Nat → Bool} (hK : ∀ c, (3 ≤ c ∧ c ≤ 9) ∨ c = 20 ∨ c = 21 ∨ c = 22 ∨ c = 23 → K c = false) (a : fr K g h) (p : cPn P g) : cPn P h := by
  obtain ⟨p1, p2, p3, p4, p5, p6⟩ := p
  exact ⟨cP_fr ⟨hK 3 (by omega), hK 4 (by omega), hK 5 (by omega), hK 6 (by omega), hK 7 (by omega), hK 8 (by omega), hK 9 (by omega)⟩ a p1, cE_fr (hK 21 (by omega)) a p2, fun q => cC_fr (hK 23 (by omega)) a (p3 q), cL_fr (hK 22 (by omega)) a p4, by rw [(a.1 20 (hK 20 (by omega))).1]; exact p5, a.2.1 p6⟩
theorem cPn_fz {K : Nat → Bool} (hK : ∀ c, (3 ≤ c ∧ c ≤ 9) ∨ c = 20 ∨ c = 21 ∨ c = 22 ∨ c = 23 → K c = false) (a : fz K g h) (p : cPn P g) : cPn P h := by
  obtain ⟨p1, p2, p3, p4, p5, p6⟩ := p
  refine ⟨cP_fz ⟨hK 3 (by omega), hK 4 (by omega), hK 5 (by omega), hK 6 (by omega), hK 7 (by omega), hK 8 (by omega), hK 9 (by omega)⟩ a p1, cE_fz (hK 21 (by omega)) a p2, ?_, ?_, by rw [(a.1 20 (hK 20 (by omega))).1]; exact p5, a.2.1 p6⟩
  · intro q
    have p3' := p3 q
    unfold cC at p3' ⊢
    rw [(a.1 23 (hK 23 (by omega))).2]
    exact p3'
  · unfold cL at p4 ⊢
    rw [(a.1 22 (hK 22 (by omega))).1]
    exact p4
theorem cRw_eq {H : Nat × (Nat → Nat) × Nat × (Nat → Nat) × (Nat → Nat → Nat)} (e1 : h.1 31 = g.1 31) (e2 : h.1 32 = g.1 32) (e3 : h.1 33 = g.1 33) (p : cRw P H g) : cRw P H h := by
  unfold cRw rR cH at p ⊢
  rw [e1, e2, e3]
  exact p
theorem cTp_eq {tn : Nat} {tb : Nat → Nat} (e1 : h.1 1 = g.1 1) (e2 : h.1 2 = g.1 2) (p : cTp tn tb g) : cTp tn tb h := by
  unfold cTp at p ⊢
  rw [e1, e2]
  exact p
theorem cWr_eq {wn : Nat} {wb : Nat → Nat} (e1 : h.1 0 11 = g.1 0 11) (e2 : h.1 41 = g.1 41) (e3 : h.1 15 = g.1 15) (p : cWr wn wb g) : cWr wn wb h := by
  unfold cWr bt15 at p ⊢
  rw [e1, e2, e3]
  exact p
theorem bKn_eq (e1 : h.1 26 = g.1 26) (e2 : h.1 27 = g.1 27) (e3 : h.2.2.2 = g.2.2.2) (p : bKn P g) : bKn P h := by
  unfold bKn lF at p ⊢
  rw [e1, e2, e3]
  exact p
theorem cI_fr {K : Nat → Bool} (hK : ∀ c, kQ c = false → K c = false) (a : fr K g h) (p : cI S g) : cI S h := by
  obtain ⟨p1, p2, p3, p4, p5, p6, p7⟩ := p
  have e : ∀ c, kQ c = false → h.1 c = g.1 c := fun c hc => (a.1 c (hK c hc)).1
  refine ⟨p1, cPn_fr (K := K) (fun c hc => hK c ?_) a p2, cRw_eq (e 31 rfl) (e 32 rfl) (e 33 rfl) p3, cTp_eq (e 1 rfl) (e 2 rfl) p4, cWr_eq (by rw [e 0 rfl]) (e 41 rfl) (e 15 rfl) p5, by rw [e 0 rfl]; exact p6, bKn_eq (e 26 rfl) (e 27 rfl) a.2.2 p7⟩
  have hd : ∀ c, c < 24 → kQ c = false := by decide
  exact hd c (by omega)
theorem rI_eq {h : zS} (e1 : ∀ c, 42 ≤ c → c ≤ 71 → h.1 c = g.1 c) (e2 : h.2.1 50 = g.2.1 50) (p : rI S g) : rI S h := by
  obtain ⟨⟨p1, p2, p3, p4⟩, ⟨p5, p6⟩, p7, p8, p9⟩ := p
  have e42 := e1 42 (by omega) (by omega)
  refine ⟨⟨?_, ?_, ?_, ?_⟩, ⟨?_, ?_⟩, ?_, ?_, by rw [e42]; exact p9⟩
  · unfold mP at p1 ⊢
    rw [e42, e1 51 (by omega) (by omega), e1 52 (by omega) (by omega), e1 53 (by omega) (by omega), e1 54 (by omega) (by omega), e1 58 (by omega) (by omega)]
    exact p1
  · unfold mF at p2 ⊢
    rw [e1 56 (by omega) (by omega), e1 57 (by omega) (by omega)]
    exact p2
  · unfold mNm at p3 ⊢
    rw [e2]
    exact p3
  · unfold mL at p4 ⊢
    rw [e42, e1 59 (by omega) (by omega)]
    exact p4
  · unfold mR at p5 ⊢
    rw [e42, e1 55 (by omega) (by omega)]
    exact p5
  · unfold mH at p6 ⊢
    rw [e42, e1 61 (by omega) (by omega), e1 62 (by omega) (by omega)]
    exact p6
  · unfold mTp at p7 ⊢
    rw [e42, e1 43 (by omega) (by omega)]
    exact p7
  · unfold mWr at p8 ⊢
    rw [e42, e1 71 (by omega) (by omega)]
    exact p8
theorem kN_R {c : Nat} (h1 : 42 ≤ c) (h2 : c ≤ 71) : kN c = false := by
  unfold kN
  rw [decide_eq_false (by omega), Bool.false_or, beq_eq_false_iff_ne]
  omega
theorem rI_fz {K : Nat → Bool} (hK : ∀ c, 42 ≤ c → c ≤ 71 → K c = false) (a : fz K g h) (p : rI S g) : rI S h := rI_eq (fun c h1 h2 => (a.1 c (hK c h1 h2)).1) (a.1 50 (hK 50 (by omega) (by omega))).2 p
theorem rI_sc (a : sc g h) (p : rI S g) : rI S h := by
  obtain ⟨⟨p1, p2, p3, p4⟩, ⟨p5, p6⟩, p7, p8, p9⟩ := p
  refine ⟨⟨mP_sc a p1, mF_sc a p2, by unfold mNm at p3 ⊢; rw [a.2]; exact p3, ?_⟩, ⟨mR_sc a p5, ?_⟩, ?_, ?_, by rw [a.1 42 5 rfl]; exact p9⟩
  · rcases p4 with q | q
    · exact Or.inl (by rw [a.1 42 29 rfl]; exact q)
    · refine Or.inr ⟨by rw [a.1 42 29 rfl]; exact q.1, fun Y hY hg hlt f hf => by rw [a.1 59 _ rfl]; exact q.2 Y hY hg hlt f hf⟩
  · exact ⟨by rw [a.1 42 32 rfl]; exact p6.1, p6.2.1, fun p hp => ⟨(p6.2.2 p hp).1, by rw [a.1 61 p rfl]; exact (p6.2.2 p hp).2.1, fun i hi => ⟨fun f hf => by rw [a.1 62 _ rfl]; exact ((p6.2.2 p hp).2.2 i hi).1 f hf, ((p6.2.2 p hp).2.2 i hi).2⟩⟩⟩
  · exact ⟨by rw [a.1 42 2 rfl]; exact p7.1, fun k hk => by rw [a.1 43 k rfl]; exact p7.2 k hk⟩
  · exact ⟨by rw [a.1 42 46 rfl]; exact p8.1, fun k hk => by rw [a.1 71 k rfl]; exact p8.2 k hk⟩
theorem scB_R {c k : Nat} (h : c < 42 ∨ 72 ≤ c) : scB c k = false := by
  have h1 : (c == 42) = false := by rw [beq_eq_false_iff_ne]; omega
  have h2 : (c == 60) = false := by rw [beq_eq_false_iff_ne]; omega
  unfold scB
  rw [h1, h2, Bool.false_and, Bool.false_or, Bool.false_or]
  rcases h with q | q
  · rw [decide_eq_false (show ¬ 63 ≤ c by omega), Bool.false_and]
  · rw [decide_eq_false (show ¬ c ≤ 70 by omega), Bool.and_false]
theorem sc_fr (a : sc g h) : fr kRf g h := ⟨fun c hc => ⟨funext fun k => a.1 c k (scB_R (by
  unfold kRf at hc
  rw [Bool.and_eq_false_iff, decide_eq_false_iff_not, decide_eq_false_iff_not] at hc
  omega)), by rw [a.2]⟩, by rw [a.2]; exact id, by rw [a.2]⟩
theorem kQ_R : ∀ c, kQ c = false → kRf c = false := fun c hc => by
  unfold kQ at hc
  rw [Bool.or_eq_false_iff, decide_eq_false_iff_not] at hc
  unfold kRf
  rw [decide_eq_false hc.2, Bool.false_and]
/-- the class answers: a code, an answer that is kept in the law's long -/
def cQ (L : zS → Option (Int32 × zS)) (g : zS) (cd an : Int32) : Prop := ∃ h, L g = some (cd, h) ∧ fr (fun c => kQ c && kN c) g h ∧ (cd = 0 → h.2.1 72 0 = an.toInt64)
/-- the reference answers -/
def mQ (M : zS → Option (Int32 × zS)) (S : zSt) (cd an : Int32) : Prop := ∀ h, rI S h → ∃ k an', M h = some (an', k) ∧ sc h k ∧ k.1 42 0 = cd ∧ (cd = 0 → an' = an)
theorem lg_rfl (a : Int64) : lg_cmp a a = 0 := (lg_0 a a).mpr rfl
theorem st_q {L M : zS → Option (Int32 × zS)} {cd an : Int32} (hc : cI S g) (hm : rI S g) (q1 : cQ L g cd an) (q2 : mQ M S cd an) : ∃ r, ((L g).bind fun v1 => zchk (decide (v1.2.2.2.2 = g.2.2.2)) ((M v1.2).bind fun v2 => zchk (decide (v2.2.2.2.2 = v1.2.2.2.2)) ((nX11_thrown v2.2).bind fun v3 => if v3 = v1.1 then (if v1.1 = 0 then (if (lg_cmp (v2.2.2.1 72 (0 : Int32).toNatClampNeg) v2.1.toInt64) = 0 then (some v2.2) else (none)) else (some v2.2)) else (none)))) = some r ∧ Iv r := by
  obtain ⟨h, w1, a1, a2⟩ := q1
  have hm1 : rI S h := rI_fz (K := fun c => kQ c && kN c) (fun c h1 h2 => by rw [kN_R h1 h2, Bool.and_false]) (fz_fr a1) hm
  have hc1 : cI S h := cI_fr (fun c hc => by rw [hc, Bool.false_and]) a1 hc
  obtain ⟨k, an', w2, b1, b2, b3⟩ := q2 h hm1
  have hc2 : cI S k := cI_fr kQ_R (sc_fr b1) hc1
  refine ⟨k, ?_, S, hc2, rI_sc b1 hm1⟩
  rw [w1, Option.bind_some, zchk_t (decide_eq_true a1.2.2)]
  dsimp only
  rw [w2, Option.bind_some, zchk_t (decide_eq_true (by rw [b1.2]))]
  unfold nX11_thrown
  rw [Option.bind_some, b2, if_pos rfl]
  by_cases c : cd = 0
  · rw [if_pos c, if_pos]
    rw [b3 c, b1.2, show (0 : Int32).toNatClampNeg = 0 from rfl, a2 c]
    exact lg_rfl _
  · rw [if_neg c]
/-- the same of a truth -/
def cQb (L : zS → Option (Int32 × zS)) (g : zS) (cd : Int32) (b : Bool) : Prop := ∃ h, L g = some (cd, h) ∧ fr (fun c => kQ c && kN c) g h ∧ (cd = 0 → h.2.1 72 0 = if b then 1 else 0)
theorem st_qb {L M : zS → Option (Int32 × zS)} {cd : Int32} {b : Bool} (hc : cI S g) (hm : rI S g) (q1 : cQb L g cd b) (q2 : mQ M S cd (if b then 1 else 0)) : ∃ r, ((L g).bind fun v1 => zchk (decide (v1.2.2.2.2 = g.2.2.2)) ((M v1.2).bind fun v2 => zchk (decide (v2.2.2.2.2 = v1.2.2.2.2)) ((nX11_thrown v2.2).bind fun v3 => if v3 = v1.1 then (if v1.1 = 0 then (if v2.1 = 0 then (if (lg_cmp (v2.2.2.1 72 (0 : Int32).toNatClampNeg) (0 : Int64)) = 0 then (some v2.2) else (none)) else (if (lg_cmp (v2.2.2.1 72 (0 : Int32).toNatClampNeg) (1 : Int64)) = 0 then (some v2.2) else (none))) else (some v2.2)) else (none)))) = some r ∧ Iv r := by
  obtain ⟨h, w1, a1, a2⟩ := q1
  have hm1 : rI S h := rI_fz (K := fun c => kQ c && kN c) (fun c h1 h2 => by rw [kN_R h1 h2, Bool.and_false]) (fz_fr a1) hm
  have hc1 : cI S h := cI_fr (fun c hc => by rw [hc, Bool.false_and]) a1 hc
  obtain ⟨k, an', w2, b1, b2, b3⟩ := q2 h hm1
  have hc2 : cI S k := cI_fr kQ_R (sc_fr b1) hc1
  refine ⟨k, ?_, S, hc2, rI_sc b1 hm1⟩
  rw [w1, Option.bind_some, zchk_t (decide_eq_true a1.2.2)]
  dsimp only
  rw [w2, Option.bind_some, zchk_t (decide_eq_true (by rw [b1.2]))]
  unfold nX11_thrown
  rw [Option.bind_some, b2, if_pos rfl]
  by_cases c : cd = 0
  · rw [if_pos c, b3 c, b1.2, show (0 : Int32).toNatClampNeg = 0 from rfl, a2 c]
    cases b with
    | true => rw [if_neg (show ¬ (if true = true then (1 : Int32) else 0) = 0 by decide)]; exact if_pos (lg_rfl 1)
    | false => rw [if_pos (show (if false = true then (1 : Int32) else 0) = 0 by decide)]; exact if_pos (lg_rfl 0)
  · rw [if_neg c]
/-- calls that throw nothing -/
theorem st_d {L M : zS → Option (Int32 × zS)} {an : Int32} (hc : cI S g) (hm : rI S g) (q1 : ∃ h, L g = some (an, h) ∧ fr (fun c => kQ c && kN c) g h) (q2 : ∀ h, rI S h → ∃ k, M h = some (an, k) ∧ sc h k) : ∃ r, ((L g).bind fun v1 => zchk (decide (v1.2.2.2.2 = g.2.2.2)) ((M v1.2).bind fun v2 => zchk (decide (v2.2.2.2.2 = v1.2.2.2.2)) (if v1.1 = v2.1 then (some v2.2) else (none)))) = some r ∧ Iv r := by
  obtain ⟨h, w1, a1⟩ := q1
  have hm1 : rI S h := rI_fz (K := fun c => kQ c && kN c) (fun c h1 h2 => by rw [kN_R h1 h2, Bool.and_false]) (fz_fr a1) hm
  have hc1 : cI S h := cI_fr (fun c hc => by rw [hc, Bool.false_and]) a1 hc
  obtain ⟨k, w2, b1⟩ := q2 h hm1
  have hc2 : cI S k := cI_fr kQ_R (sc_fr b1) hc1
  refine ⟨k, ?_, S, hc2, rI_sc b1 hm1⟩
  rw [w1, Option.bind_some, zchk_t (decide_eq_true a1.2.2)]
  dsimp only
  rw [w2, Option.bind_some, zchk_t (decide_eq_true (by rw [b1.2])), if_pos rfl]
theorem st_p {L : zS → Option Int32} {M : zS → Option (Int32 × zS)} {an : Int32} (hc : cI S g) (hm : rI S g) (q1 : L g = some an) (q2 : ∀ h, rI S h → ∃ k, M h = some (an, k) ∧ sc h k) : ∃ r, ((L g).bind fun v1 => (M g).bind fun v2 => zchk (decide (v2.2.2.2.2 = g.2.2.2)) (if v1 = v2.1 then (some v2.2) else (none))) = some r ∧ Iv r := by
  obtain ⟨k, w2, b1⟩ := q2 g hm
  have hc2 : cI S k := cI_fr kQ_R (sc_fr b1) hc
  refine ⟨k, ?_, S, hc2, rI_sc b1 hm⟩
  rw [q1, Option.bind_some, w2, Option.bind_some, zchk_t (decide_eq_true (by rw [b1.2])), if_pos rfl]
end St
