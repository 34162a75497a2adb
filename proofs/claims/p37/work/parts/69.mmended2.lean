
/-! ===== the reference: what a row is when mended ===== -/
section Mf
variable {P : zPl} {g : zS} {N : Nat} {r : Nat → Nat}
theorem shf_all {f : Nat → Nat} {p x n : Nat} (hp : p ≤ n) (Q : Nat → Prop) (hx : Q x) (hf : ∀ k, k < n → Q (f k)) : ∀ k, k < n + 1 → Q (shf f p x k) := fun k hk => by
  unfold shf
  by_cases c1 : k < p
  · rw [if_pos c1]; exact hf k (by omega)
  · rw [if_neg c1]
    by_cases c2 : k = p
    · rw [if_pos c2]; exact hx
    · rw [if_neg c2]; exact hf (k - 1) (by omega)
theorem dG_gv (P : zPl) (r : Nat → Nat) (i : Nat) : ∀ n, ∀ k, k < (dG P r i n).1 → (dG P r i n).2.1 k < n ∧ gvB P (r i) (r ((dG P r i n).2.1 k)) (ls P (r i)) = true := by
  intro n
  induction n with
  | zero => intro k hk; exact absurd hk (Nat.not_lt_zero k)
  | succ n ih =>
    intro k hk
    rw [dG_s] at hk ⊢
    cases hc : (n != i && gvB P (r i) (r n) (ls P (r i))) with
    | true =>
      rw [hc, if_pos rfl] at hk
      rw [if_pos rfl]
      rw [Bool.and_eq_true] at hc
      exact shf_all (ipN_spec _ _ _).1 (fun o => o < n + 1 ∧ gvB P (r i) (r o) (ls P (r i)) = true) ⟨Nat.lt_succ_self n, hc.2⟩ (fun k hk => by have := ih k hk; exact ⟨by omega, this.2⟩) k hk
    | false =>
      rw [hc, if_neg (by decide)] at hk
      rw [if_neg (by decide)]
      have := ih k hk
      exact ⟨by omega, this.2⟩
theorem dGt_gv (P : zPl) (r : Nat → Nat) (N i : Nat) : ∀ k, k < (dGt P r N i).1 → (dGt P r N i).2.1 k < N ∧ gvB P (r i) (r ((dGt P r N i).2.1 k)) (ls P (r i)) = true := fun k hk => by
  unfold dGt at hk ⊢
  by_cases q : ls P (r i) = 99
  · rw [if_pos q] at hk; exact absurd hk (Nat.not_lt_zero k)
  · rw [if_neg q] at hk ⊢; exact dG_gv P r i N k hk
theorem fno_inj {a b : Nat → Nat} {n : Nat} (hn : n ≤ 5) (ha : ∀ f, f < n → a f < 5) (hb : ∀ f, f < n → b f < 5) (h : fno a n = fno b n) : ∀ f, f < n → a f = b f := fun f hf => by
  have h1 := (vo_fno hn ha).2 f (by omega)
  have h2 := (vo_fno hn hb).2 f (by omega)
  rw [if_pos hf] at h1 h2
  rw [← h1, ← h2, h]
theorem part_eq {d d' S : Nat} (hd : d < 32768) (hd' : d' < 32768) : d &&& msk S 5 = d' &&& msk S 5 ↔ ∀ f, f < 5 → S.testBit f = true → rv d f = rv d' f := by
  constructor
  · intro h f hf hS
    apply Nat.eq_of_testBit_eq
    intro i
    rw [rv_bit, rv_bit]
    by_cases hi : i < 3
    · have h1 := congrArg (fun z => z.testBit (3 * f + i)) h
      rw [Nat.testBit_and, Nat.testBit_and, msk_bit S 5 (by omega) f hf i hi, hS, decide_eq_true hf, Bool.and_true, Bool.and_true, Bool.and_true] at h1
      rw [h1]
    · rw [decide_eq_false hi, Bool.and_false, Bool.and_false]
  · intro h
    apply Nat.eq_of_testBit_eq
    intro j
    rw [Nat.testBit_and, Nat.testBit_and]
    by_cases hj : j < 15
    · have ej : 3 * (j / 3) + j % 3 = j := Nat.div_add_mod j 3
      have hf : j / 3 < 5 := by omega
      have hi : j % 3 < 3 := Nat.mod_lt _ (by omega)
      have hm := msk_bit S 5 (Nat.le_refl 5) (j / 3) hf (j % 3) hi
      rw [ej, decide_eq_true hf, Bool.true_and] at hm
      rw [hm]
      cases hS : S.testBit (j / 3) with
      | false => rw [Bool.and_false, Bool.and_false]
      | true =>
        have h1 := congrArg (fun z => z.testBit (j % 3)) (h (j / 3) hf hS)
        rw [rv_bit, rv_bit, ej, decide_eq_true hi, Bool.and_true, Bool.and_true] at h1
        rw [h1]
    · have e : ∀ x, x < 32768 → x.testBit j = false := fun x hx => Nat.testBit_lt_two_pow (Nat.lt_of_lt_of_le hx (by rw [show 32768 = 2 ^ 15 from rfl]; exact Nat.pow_le_pow_right (by omega) (by omega)))
      rw [e d hd, e d' hd']
theorem bF_eq (hO : pOK P) {c d d' S : Nat} (hc : rOK P c) (hd : rOK P d) (hd' : rOK P d') (hS : S < 2 ^ pn P) (hm : ∀ f, f < pn P → rv c f = 0 → S.testBit f = true) (f1 : ∀ f, f < pn P → rv d f ≠ 0) (f2 : ∀ f, f < pn P → rv d' f ≠ 0) : bF P c d S = bF P c d' S ↔ d &&& msk S 5 = d' &&& msk S 5 := by
  have h5 := hO.1
  have k1 := bld_full (S := S) h5 hm f1
  have k2 := bld_full (S := S) h5 hm f2
  have o1 := rOK_bld hc hd h5 (S := S)
  have o2 := rOK_bld hc hd' h5 (S := S)
  rw [part_eq hd.1 hd'.1]
  constructor
  · intro h f hf hb
    have hfn : f < pn P := big_bit hS hb
    have h1 := fno_inj h5 (fun f hf => by have := o1.2.1 f hf; have := (hO.2.1 f hf).2.1; have := k1 f hf; omega) (fun f hf => by have := o2.2.1 f hf; have := (hO.2.1 f hf).2.1; have := k2 f hf; omega) h f hfn
    have h2 := k1 f hfn
    have h3 := k2 f hfn
    have e1 : rv (bld c d S) f = rv d f := by rw [rv_bld hf, if_pos hb]
    have e2 : rv (bld c d' S) f = rv d' f := by rw [rv_bld hf, if_pos hb]
    omega
  · intro h
    refine fno_congr _ (fun f hf => ?_)
    rw [rv_bld (by omega), rv_bld (by omega)]
    cases hb : S.testBit f with
    | true => rw [if_pos rfl, if_pos rfl, h f (by omega) hb]
    | false => rfl
theorem fno_lex {a b : Nat → Nat} {f : Nat} (hf : f < 5) (ha : ∀ i, i < 5 → a i < 5) (hb : ∀ i, i < 5 → b i < 5) (he : ∀ i, i < f → a i = b i) (hl : a f < b f) : fno a 5 < fno b 5 := by
  rw [fno_5, fno_5]
  have a0 := ha 0 (by omega)
  have a1 := ha 1 (by omega)
  have a2 := ha 2 (by omega)
  have a3 := ha 3 (by omega)
  have a4 := ha 4 (by omega)
  have hc : f = 0 ∨ f = 1 ∨ f = 2 ∨ f = 3 ∨ f = 4 := by omega
  rcases hc with rfl | rfl | rfl | rfl | rfl
  · omega
  · have e0 := he 0 (by omega)
    omega
  · have e0 := he 0 (by omega)
    have e1 := he 1 (by omega)
    omega
  · have e0 := he 0 (by omega)
    have e1 := he 1 (by omega)
    have e2 := he 2 (by omega)
    omega
  · have e0 := he 0 (by omega)
    have e1 := he 1 (by omega)
    have e2 := he 2 (by omega)
    have e3 := he 3 (by omega)
    omega
theorem fno_vo {x : Nat} (hx : x < 3125) : fno (vo x) 5 = x := by
  rw [fno_5]
  show 625 * (x / 625 % 5) + 125 * (x / 125 % 5) + 25 * (x / 25 % 5) + 5 * (x / 5 % 5) + x / 1 % 5 = x
  omega
/-- the first way's number -/
theorem fw_first (hO : pOK P) {c S : Nat} (hc : rOK P c) (hm : cmd P c S = true) : fno (fun f => rv (fw P c S) f - 1) (pn P) < 3125 ∧ wyB P c S (fno (fun f => rv (fw P c S) f - 1) (pn P)) = true ∧ ∀ x, x < fno (fun f => rv (fw P c S) f - 1) (pn P) → wyB P c S x = false := by
  have h5 := hO.1
  obtain ⟨w1, w2, w3, w4⟩ := fw_spec hO hc hm
  obtain ⟨y1, y2, y3⟩ := way_wyB hO w3
  refine ⟨y1, y2, fun x hx => ?_⟩
  cases hw : wyB P c S x with
  | false => rfl
  | true =>
    exfalso
    obtain ⟨v1, v2⟩ := wyB_way hO hw
    have hx3 : x < 3125 := by omega
    have v0 : ∀ f, pn P ≤ f → f < 5 → vo x f = 0 := fun f hf hf5 => by
      unfold isF5 at v2
      rw [alB_iff] at v2
      have := of_decide_eq_true (v2 f hf5)
      rw [mq_out hf] at this
      omega
    have hfd : ∀ f, f < pn P → rv (fw P c S) f - 1 < 5 := fun f hf => by
      have h1 : rv (fw P c S) f - 1 < pq P f := w3.1 f hf
      have := (hO.2.1 f hf).2.1
      omega
    -- both as numbers of five digits
    have e1 : fno (fun f => rv (fw P c S) f - 1) (pn P) = fno (fun f => if f < pn P then rv (fw P c S) f - 1 else 0) 5 := by
      have := fno_ext (fun f => rv (fw P c S) f - 1) (pn P) (5 - pn P)
      rw [show pn P + (5 - pn P) = 5 by omega] at this
      exact this.symm
    have hd5 : ∀ i, i < 5 → (if i < pn P then rv (fw P c S) i - 1 else 0) < 5 := fun i hi => by
      split
      · next q => exact hfd i q
      · omega
    rcases w4 (vo x) v1 with q | ⟨f, hf, q1, q2⟩
    · have : fno (vo x) 5 = fno (fun f => if f < pn P then rv (fw P c S) f - 1 else 0) 5 := fno_congr 5 (fun f hf => by
        by_cases k : f < pn P
        · rw [if_pos k]
          have := q f k
          omega
        · rw [if_neg k]; exact v0 f (by omega) hf)
      rw [fno_vo hx3] at this
      omega
    · have h9 := fno_lex (a := fun f => if f < pn P then rv (fw P c S) f - 1 else 0) (b := vo x) (f := f) (by omega) hd5 (fun i _ => vo_lt x i) (fun i hi => by
        rw [if_pos (by omega)]
        have := q1 i hi
        omega) (by
        rw [if_pos hf]
        have := w2 f hf
        omega)
      rw [fno_vo hx3] at h9
      omega
/-- what the reference has of a row mended -/
def mmI (P : zPl) (m : Nat) : Int32 := if m = 99999 then -1 else nI (fno (fun f => rv m f - 1) (pn P))
theorem m_mend28 (hO : pOK P) (hM : mP P g) (hF : mF P g) (hR : mR P N r g) {i : Nat} (hi : i < N) : wh (wX11_mended_28 (nI i) (sI (ls P (r i))) g) (0 : Int32) = some (mmI P (if ls P (r i) = 99 then 99999 else fw P (r i) (ls P (r i))), g) := by
  have h5 := hO.1
  have h7 := p2n hO
  have hri := (hR.2.2 i hi).2
  have hls := ls_spec hO (r i)
  by_cases h9 : ls P (r i) = 99
  · rw [if_pos h9]
    refine wh_out ?_
    dsimp only [wX11_mended_28]
    rw [if_neg (by decide), h9, if_pos (show sI 99 = -1 from rfl)]
    rfl
  · obtain ⟨b1, b2, _⟩ := hls.resolve_left (fun q => h9 q.1)
    have es : sI (ls P (r i)) = nI (ls P (r i)) := if_neg h9
    obtain ⟨y1, y2, y3⟩ := fw_first hO hri b2
    have hfw := (fw_spec hO hri b2).1.1
    rw [if_neg h9, es]
    have key := wh_fst (step := wX11_mended_28 (nI i) (nI (ls P (r i))) g) (wyB P (r i) (ls P (r i))) (fun x => nI x) 3125 (fun x => (nI x, g)) (-1, g) (fun x hx hp => by
      dsimp only [wX11_mended_28]
      rw [if_neg (by rw [show (3125 : Int32) = nI 3125 from rfl, nN_le (by omega) (by omega)]; omega), if_neg (show ¬ nI (ls P (r i)) = (-1 : Int32) from fun q => by rw [nI_m1, nN_eqm (by omega)] at q; exact q), m_passes hO hF hx, Option.bind_some, nI_s]
      unfold wyB at hp
      cases h1 : psF P x with
      | false => rw [if_pos (show (if false = true then (1 : Int32) else 0) = 0 by decide)]
      | true =>
        rw [h1, Bool.true_and] at hp
        rw [if_neg (show ¬ (if true = true then (1 : Int32) else 0) = 0 by decide), m_isAs hO hM hR hi hx (by omega), Option.bind_some, hp, if_pos (show (if false = true then (1 : Int32) else 0) = 0 by decide)]) (fun x hx hp => by
      unfold wyB at hp
      rw [Bool.and_eq_true] at hp
      dsimp only [wX11_mended_28]
      rw [if_neg (by rw [show (3125 : Int32) = nI 3125 from rfl, nN_le (by omega) (by omega)]; omega), if_neg (show ¬ nI (ls P (r i)) = (-1 : Int32) from fun q => by rw [nI_m1, nN_eqm (by omega)] at q; exact q), m_passes hO hF hx, Option.bind_some, hp.1, if_neg (show ¬ (if true = true then (1 : Int32) else 0) = 0 by decide), m_isAs hO hM hR hi hx (by omega), Option.bind_some, hp.2, if_neg (show ¬ (if true = true then (1 : Int32) else 0) = 0 by decide)]
      rfl) (by
      dsimp only [wX11_mended_28]
      rw [if_pos (show (3125 : Int32) ≤ nI 3125 from Int32.le_refl _)]
      rfl)
    rw [show (0 : Int32) = nI 0 from rfl, key, fstB_eq y1 y2 y3, if_pos y1]
    unfold mmI
    rw [if_neg (by omega)]
/-- the donors whose form is one's -/
def smF (P : zPl) (c S : Nat) (r : Nat → Nat) (s : zDn) (k j : Nat) : Bool := bF P c (r (s.2.1 j)) S == bF P c (r (s.2.1 k)) S
/-- the reference's choice among donors: the place, how many -/
def cmF (P : zPl) (c S : Nat) (r : Nat → Nat) (s : zDn) (n : Nat) : Nat × Nat := foN (fun k b => if cnt (smF P c S r s k) s.1 ≤ b.2 then b else (k, cnt (smF P c S r s k) s.1)) n (0, 0)
theorem cmF_s (P : zPl) (c S : Nat) (r : Nat → Nat) (s : zDn) (n : Nat) : cmF P c S r s (n + 1) = if cnt (smF P c S r s n) s.1 ≤ (cmF P c S r s n).2 then cmF P c S r s n else (n, cnt (smF P c S r s n) s.1) := rfl
theorem cmF_le (P : zPl) (c S : Nat) (r : Nat → Nat) (s : zDn) (h0 : 0 < s.1) : ∀ n, n ≤ s.1 → (cmF P c S r s n).1 < s.1 ∧ (cmF P c S r s n).2 ≤ s.1 := by
  intro n
  induction n with
  | zero => intro _; exact ⟨h0, Nat.zero_le _⟩
  | succ n ih =>
    intro hn
    rw [cmF_s]
    split
    · exact ih (by omega)
    · exact ⟨by dsimp only; omega, cnt_le _ _⟩
theorem cmF_cmn {c S : Nat} {s : zDn} (he : ∀ k j, k < s.1 → j < s.1 → smF P c S r s k j = smB r S s k j) : ∀ n, n ≤ s.1 → s.2.1 (cmF P c S r s n).1 = (cmn r S s n).1 ∧ (cmF P c S r s n).2 = (cmn r S s n).2 := by
  intro n
  induction n with
  | zero => intro _; exact ⟨rfl, rfl⟩
  | succ n ih =>
    intro hn
    obtain ⟨i1, i2⟩ := ih (by omega)
    rw [cmF_s, cmn_s, i2, cnt_congr (q := smB r S s n) s.1 (fun j hj => he n j (by omega) hj)]
    by_cases q : cnt (smB r S s n) s.1 ≤ (cmn r S s n).2
    · rw [if_pos q, if_pos q]; exact ⟨i1, i2⟩
    · rw [if_neg q, if_neg q]; exact ⟨rfl, rfl⟩
theorem m_mend114 {i : Nat} {s : zDn} (hD : mD P N r i s g) (hs : s.1 ≤ 40) (hlt : ∀ k, k < s.1 → bF P (r i) (r (s.2.1 k)) (ls P (r i)) < 3125) {k : Nat} (hk : k < s.1) {b m : Nat} (hm : m ≤ 40) : wh (wX11_mended_114 1 (nI b) (nI m) (nI k) g) ((0 : Int32), (0 : Int32)) = some (.inl (if cnt (smF P (r i) (ls P (r i)) r s k) s.1 ≤ m then (nI b, nI m, nI (k + 1)) else (nI k, nI (cnt (smF P (r i) (ls P (r i)) r s k) s.1), nI (k + 1)))) := by
  obtain ⟨d1, d2⟩ := hD
  have hc := cnt_le (smF P (r i) (ls P (r i)) r s k) s.1
  refine wh_seq (fun j => (nI (cnt (smF P (r i) (ls P (r i)) r s k) j), nI j)) s.1 (fun j hj => ?_) ?_
  · dsimp only [wX11_mended_114]
    rw [d1, if_neg (by rw [nN_le (by omega) (by omega)]; omega), zchk_t (zin_nI (by omega) (by omega)), zchk_t (zin_nI (by omega) (by omega)), nI_cl (by omega), nI_cl (by omega), (d2 j hj).2.2.2.2, (d2 k hk).2.2.2.2, nI_s, cnt_s]
    have h1 := hlt j hj
    have h2 := hlt k hk
    by_cases c : bF P (r i) (r (s.2.1 j)) (ls P (r i)) = bF P (r i) (r (s.2.1 k)) (ls P (r i))
    · rw [if_pos (by rw [c]), nI_s, if_pos (show smF P (r i) (ls P (r i)) r s k j = true by unfold smF; rw [c]; exact beq_self_eq_true _)]
    · rw [if_neg (fun q => c ((nN_eq (by omega) (by omega)).mp q)), Int32.add_zero, nI_s, if_neg (show ¬ smF P (r i) (ls P (r i)) r s k j = true by unfold smF; rw [beq_iff_eq]; exact c)]
  · dsimp only [wX11_mended_114]
    rw [d1, if_pos (Int32.le_refl _), nI_s]
    by_cases c : cnt (smF P (r i) (ls P (r i)) r s k) s.1 ≤ m
    · rw [if_neg (by rw [nN_lt (by omega) (by omega)]; omega), if_pos c]; rfl
    · rw [if_pos (by rw [nN_lt (by omega) (by omega)]; omega), if_neg c]; rfl
theorem m_mended (hO : pOK P) (hM : mP P g) (hF : mF P g) (hR : mR P N r g) {i way : Nat} (hi : i < N) (hw : way ≤ 2) : ∃ h, nX11_mended (nI i) (nI way) g = some (mmI P (mdd P r N i way), h) ∧ sc g h ∧ h.1 42 0 = g.1 42 0 := by
  have h5 := hO.1
  have h7 := p2n hO
  have hN := hR.2.1
  have hri := (hR.2.2 i hi).2
  unfold nX11_mended mdd
  rw [m_passesRow hO hM hF hR hi, Option.bind_some]
  cases hrg : rgt P (r i) with
  | true =>
    rw [if_neg (show ¬ (if true = true then (1 : Int32) else 0) = 0 by decide), if_pos rfl, m_formOf hO hM hR hi, Option.bind_some]
    unfold mmI
    have := hri.1
    rw [if_neg (by omega)]
    exact ⟨g, rfl, sc_rfl g, rfl⟩
  | false =>
    rw [if_pos (show (if false = true then (1 : Int32) else 0) = 0 by decide), if_neg (show ¬ false = true by decide)]
    by_cases hw2 : way = 2
    · rw [if_pos (by rw [hw2]; rfl), if_pos hw2, m_lightest hO hM hF hR hi, Option.bind_some]
      have c1 : sc g (zi g 42 36 (nI (lmN P (r i) (ls P (r i)) (2 ^ pn P)))) := sc_zi rfl _ _
      dsimp only
      rw [m_mend28 hO (mP_sc c1 hM) (mF_sc c1 hF) (mR_sc c1 hR) hi]
      exact ⟨_, rfl, c1, by rw [zi_else _ _ (by decide)]⟩
    · rw [if_neg (fun q : nI way = (2 : Int32) => hw2 ((nN_eq (b := 2) (by omega) (by omega)).mp q)), if_neg hw2]
      obtain ⟨h, w, a1, a2, a3⟩ := m_laysDonors hO hM hF hR hi
      rw [w, Option.bind_some, a3.1]
      have hle := dGt_le P r N i
      have hgv := dGt_gv P r N i
      by_cases h0 : (dGt P r N i).1 = 0
      · rw [if_pos (by rw [h0]; rfl), if_pos h0]
        refine ⟨h, ?_, a1, a2⟩
        split <;> rfl
      · rw [if_neg (fun q => h0 ((nN_eq0 (by omega)).mp q)), if_neg h0]
        have h9 : ¬ ls P (r i) = 99 := fun q => h0 (by unfold dGt; rw [if_pos q])
        obtain ⟨b1, b2, _⟩ := (ls_spec hO (r i)).resolve_left (fun q => h9 q.1)
        have hm : ∀ f, f < pn P → rv (r i) f = 0 → (ls P (r i)).testBit f = true := by
          have h := b2
          unfold cmd at h
          rw [Bool.and_eq_true, mSb_iff h5] at h
          exact h.1
        rw [if_neg h9]
        have hfull : ∀ k, k < (dGt P r N i).1 → rOK P (r ((dGt P r N i).2.1 k)) ∧ ∀ f, f < pn P → rv (r ((dGt P r N i).2.1 k)) f ≠ 0 := fun k hk => by
          obtain ⟨g1, g2⟩ := hgv k hk
          unfold gvB at g2
          rw [Bool.and_eq_true, Bool.and_eq_true] at g2
          exact ⟨(hR.2.2 _ g1).2, rgt_full g2.1.1⟩
        have hlt : ∀ k, k < (dGt P r N i).1 → bF P (r i) (r ((dGt P r N i).2.1 k)) (ls P (r i)) < 3125 := fun k hk => (bF_form hO hri (hfull k hk).1 (bld_full h5 hm (hfull k hk).2)).1
        have hend : ∀ k, k < (dGt P r N i).1 → ∃ rr, (zex (jX11_mended_179 (nI k) h) : Option ((Int32 × Int32 × Int32) ⊕ (Int32 × zS))) = some (.inr rr) ∧ rr = (mmI P (bld (r i) (r ((dGt P r N i).2.1 k)) (ls P (r i))), h) := fun k hk => by
          unfold jX11_mended_179
          rw [zchk_t (zin_nI (by omega) (by omega)), nI_cl (by omega), (a3.2 k hk).2.2.2.2]
          refine ⟨_, rfl, ?_⟩
          have := (rOK_bld hri (hfull k hk).1 h5 (S := ls P (r i))).1
          unfold mmI
          rw [if_neg (by omega)]
          rfl
        by_cases hw1 : way = 1
        · rw [if_pos hw1, hw1]
          have hcl := cmF_le P (r i) (ls P (r i)) r (dGt P r N i) (by omega)
          obtain ⟨rr, w2, q⟩ := wh_up (step := wX11_mended_94 (nI 1) h) (fun k (t : Int32 × Int32 × Int32) => t = (nI (cmF P (r i) (ls P (r i)) r (dGt P r N i) k).1, nI (cmF P (r i) (ls P (r i)) r (dGt P r N i) k).2, nI k)) (fun rr => rr = (mmI P (bld (r i) (r ((dGt P r N i).2.1 (cmF P (r i) (ls P (r i)) r (dGt P r N i) (dGt P r N i).1).1)) (ls P (r i))), h)) (dGt P r N i).1 (fun k t hk hI => by
            subst hI
            dsimp only [wX11_mended_94]
            have hck := hcl k (by omega)
            rw [a3.1, if_neg (by rw [nN_le (by omega) (by omega)]; omega), if_pos (show nI 1 = (1 : Int32) from rfl)]
            have h114 := m_mend114 (g := h) a3 (by omega) hlt hk (b := (cmF P (r i) (ls P (r i)) r (dGt P r N i) k).1) (m := (cmF P (r i) (ls P (r i)) r (dGt P r N i) k).2) (by omega)
            rw [show nI 1 = (1 : Int32) from rfl, h114, cmF_s]
            by_cases c : cnt (smF P (r i) (ls P (r i)) r (dGt P r N i) k) (dGt P r N i).1 ≤ (cmF P (r i) (ls P (r i)) r (dGt P r N i) k).2
            · rw [if_pos c, if_pos c]; exact ⟨_, rfl, rfl⟩
            · rw [if_neg c, if_neg c]; exact ⟨_, rfl, rfl⟩) (fun t hI => by
            subst hI
            dsimp only [wX11_mended_94]
            rw [a3.1, if_pos (Int32.le_refl _)]
            exact hend _ (hcl _ (Nat.le_refl _)).1) (s := ((0 : Int32), (0 : Int32), (0 : Int32))) rfl
          have hcm := (cmF_cmn (c := r i) (S := ls P (r i)) (r := r) (s := dGt P r N i) (P := P) (fun k j hk hj => by
            unfold smF smB
            rw [Bool.eq_iff_iff, beq_iff_eq, beq_iff_eq]
            exact bF_eq hO hri (hfull j hj).1 (hfull k hk).1 b1 hm (hfull j hj).2 (hfull k hk).2) (dGt P r N i).1 (Nat.le_refl _)).1
          rw [hcm] at q
          exact ⟨h, by rw [w2, q], a1, a2⟩
        · rw [if_neg hw1]
          obtain ⟨rr, w2, q⟩ := hend 0 (by omega)
          refine ⟨h, ?_, a1, a2⟩
          rw [← q]
          refine wh_out ?_
          dsimp only [wX11_mended_94]
          rw [a3.1, if_neg (show ¬ nI (dGt P r N i).1 ≤ (0 : Int32) by rw [show (0 : Int32) = nI 0 from rfl, nN_le (by omega) (by omega)]; omega), if_neg (fun q : nI way = (1 : Int32) => hw1 ((nN_eq (b := 1) (by omega) (by omega)).mp q))]
          exact w2
/-- a row mended is one that the plan can have, and full -/
theorem mdd_ok (hO : pOK P) {i way : Nat} (hi : i < N) (hr : ∀ k, k < N → rOK P (r k)) (h : mdd P r N i way ≠ 99999) : rOK P (mdd P r N i way) ∧ ∀ f, f < pn P → rv (mdd P r N i way) f ≠ 0 := by
  have h5 := hO.1
  unfold mdd at h ⊢
  cases hrg : rgt P (r i) with
  | true => rw [if_pos rfl]; exact ⟨hr i hi, rgt_full hrg⟩
  | false =>
    rw [hrg, if_neg (show ¬ false = true by decide)] at h
    rw [if_neg (show ¬ false = true by decide)]
    by_cases h9 : ls P (r i) = 99
    · rw [if_pos h9] at h; exact absurd rfl h
    · obtain ⟨b1, b2, _⟩ := (ls_spec hO (r i)).resolve_left (fun q => h9 q.1)
      have hm : ∀ f, f < pn P → rv (r i) f = 0 → (ls P (r i)).testBit f = true := by
        have h := b2
        unfold cmd at h
        rw [Bool.and_eq_true, mSb_iff h5] at h
        exact h.1
      rw [if_neg h9] at h ⊢
      by_cases hw2 : way = 2
      · rw [if_pos hw2]
        obtain ⟨w1, w2, _⟩ := fw_spec hO (hr i hi) b2
        exact ⟨w1, w2⟩
      · rw [if_neg hw2] at h ⊢
        by_cases h0 : (dGt P r N i).1 = 0
        · rw [if_pos h0] at h; exact absurd rfl h
        · rw [if_neg h0]
          have hgv := dGt_gv P r N i
          have go : ∀ k, k < (dGt P r N i).1 → rOK P (bld (r i) (r ((dGt P r N i).2.1 k)) (ls P (r i))) ∧ ∀ f, f < pn P → rv (bld (r i) (r ((dGt P r N i).2.1 k)) (ls P (r i))) f ≠ 0 := fun k hk => by
            obtain ⟨g1, g2⟩ := hgv k hk
            unfold gvB at g2
            rw [Bool.and_eq_true, Bool.and_eq_true] at g2
            exact ⟨rOK_bld (hr i hi) (hr _ g1) h5, bld_full h5 hm (rgt_full g2.1.1)⟩
          by_cases hw1 : way = 1
          · rw [if_pos hw1]
            have hin : ∀ n, n ≤ (dGt P r N i).1 → ∃ k, k < (dGt P r N i).1 ∧ (cmn r (ls P (r i)) (dGt P r N i) n).1 = (dGt P r N i).2.1 k := by
              intro n
              induction n with
              | zero => intro _; exact ⟨0, by omega, rfl⟩
              | succ n ih =>
                intro hn
                rw [cmn_s]
                split
                · exact ih (by omega)
                · exact ⟨n, by omega, rfl⟩
            obtain ⟨k, hk, e⟩ := hin _ (Nat.le_refl _)
            rw [e]
            exact go k hk
          · rw [if_neg hw1]
            exact go 0 (by omega)
end Mf
