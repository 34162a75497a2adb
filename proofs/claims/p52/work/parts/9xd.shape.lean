
/-! ===== a text as the list of its bytes: its lines one after another ===== -/
section Ld
variable {L B T : List Nat} {s t n : Nat} {P : zPl} {N : Nat} {r : Nat → Nat}
/-- behind a line: nothing, or no blank -/
def nbl (B : List Nat) : Prop := B = [] ∨ ∃ x C, B = x :: C ∧ isBl x = false
theorem sk_nbl (h : sfx L s B) (hB : nbl B) : sk L.length (lb L) s = s := by
  rcases hB with rfl | ⟨x, C, rfl, hx⟩
  · exact sk_end h
  · exact sk_no h hx
/-- n lines lead from the text's start to the token s -/
def fwd (L : List Nat) : Nat → Nat → zPl → Nat → (Nat → Nat) → Prop
  | 0, s, P, N, r => s = 0 ∧ P = PZ ∧ N = 0 ∧ r = fun _ => 0
  | n + 1, s, P, N, r => ∃ s1 P1 N1 r1 t, fwd L n s1 P1 N1 r1 ∧ s1 < L.length ∧ lnP L.length (lb L) s1 P1 N1 r1 t P N r ∧ chr L.length (lb L) t = 59 ∧ s = sk L.length (lb L) (t + 1)
theorem fwd_rd : ∀ (n m s : Nat) (P : zPl) (N : Nat) (r : Nat → Nat) {P' : zPl} {N' : Nat} {r' : Nat → Nat}, fwd L n s P N r → rdP L.length (lb L) m s P N r P' N' r' → rdP L.length (lb L) (m + n) 0 PZ 0 (fun _ => 0) P' N' r'
  | 0, m, s, P, N, r, P', N', r', hf, hr => by
    obtain ⟨rfl, rfl, rfl, rfl⟩ := hf
    exact hr
  | n + 1, m, s, P, N, r, P', N', r', hf, hr => by
    obtain ⟨s1, P1, N1, r1, t, h1, h2, h3, h4, rfl⟩ := hf
    have h := fwd_rd n (m + 1) s1 P1 N1 r1 h1 (show rdP L.length (lb L) (m + 1) s1 P1 N1 r1 P' N' r' from ⟨h2, t, P, N, r, h3, h4, hr⟩)
    rw [show m + (n + 1) = m + 1 + n by omega]
    exact h
/-- whatever comes behind T: n lines, a draft of this shape -/
def gS (T : List Nat) (n : Nat) (Q : zPl → Nat → Prop) : Prop := ∀ B, nbl B → ∃ P N r, Q P N ∧ fwd (T ++ B) n T.length P N r
/-- a line, from drafts of one shape to those of another -/
def lS (l : List Nat) (Q Q' : zPl → Nat → Prop) : Prop := (∃ x C, l = x :: C ∧ isBl x = false) ∧ ∀ {L B : List Nat} {s : Nat} {P : zPl} {N : Nat} {r : Nat → Nat}, Q P N → sfx L s (l ++ B) → ∃ t' P1 N1 r1, Q' P1 N1 ∧ lnP L.length (lb L) s P N r t' P1 N1 r1 ∧ sfx L t' (59 :: B)
theorem gS_0 {Q : zPl → Nat → Prop} (h : Q PZ 0) : gS [] 0 Q := fun B _ => ⟨PZ, 0, fun _ => 0, h, rfl, rfl, rfl, rfl⟩
theorem gS_s {Q Q' : zPl → Nat → Prop} {l : List Nat} (hT : gS T n Q) (hl : lS l Q Q') : gS (T ++ l) (n + 1) Q' := fun B hB => by
  obtain ⟨⟨x, C, el, hx⟩, hgo⟩ := hl
  obtain ⟨P, N, r, hQ, hf⟩ := hT (l ++ B) (Or.inr ⟨x, C ++ B, by rw [el]; rfl, hx⟩)
  obtain ⟨t', P1, N1, r1, hQ', h1, h2⟩ := hgo (r := r) hQ (sfx_T T (l ++ B))
  have e : T ++ l ++ B = T ++ (l ++ B) := List.append_assoc ..
  have hlen := sfx_len h2
  rw [List.length_append, List.length_append, List.length_cons] at hlen
  obtain ⟨q1, q2, q3⟩ := sfx_at h2
  have hlx : 0 < l.length := by rw [el]; exact Nat.succ_pos _
  refine ⟨P1, N1, r1, hQ', T.length, P, N, r, t', ?_, ?_, ?_, ?_, ?_⟩
  · rw [e]; exact hf
  · rw [e, List.length_append, List.length_append]; omega
  · rw [e]; exact h1
  · rw [e]; exact sfx_chr h2
  · rw [e, sk_nbl q3 hB, List.length_append]
    omega
theorem gS_end {Q : zPl → Nat → Prop} (hT : gS T n Q) (h0 : nbl T) : ∃ P N r, Q P N ∧ rdP T.length (lb T) n (sk T.length (lb T) 0) PZ 0 (fun _ => 0) P N r := by
  obtain ⟨P, N, r, hQ, hf⟩ := hT [] (Or.inl rfl)
  rw [List.append_nil] at hf
  refine ⟨P, N, r, hQ, ?_⟩
  rw [sk_nbl (sfx_0 T) h0]
  have := fwd_rd n 0 T.length P N r hf ⟨Nat.lt_irrefl _, rfl, rfl, rfl⟩
  rw [Nat.zero_add] at this
  exact this
/-- fields p, q, r, s with so many values; a group or none; how many edits, rows -/
def shp (F : Nat) (many : Nat → Nat) (G e k : Nat) (P : zPl) (N : Nat) : Prop := pn P = F ∧ (∀ f, f < F → pl P f = [112 + f] ∧ pq P f = many f) ∧ (G = 0 → pg P = 9) ∧ pm P = e ∧ N = k
def mnO (F : Nat) (many : Nat → Nat) : Prop := F ≤ 5 ∧ ∀ f, f < F → 2 ≤ many f ∧ many f ≤ 5
theorem isLt_p {f : Nat} (h : f < 5) : isLt (112 + f) = true := by
  have : ∀ f, f < 5 → isLt (112 + f) = true := by decide
  exact this f h
theorem pl_ne {F : Nat} {many : Nat → Nat} (h : ∀ f, f < F → pl P f = [112 + f] ∧ pq P f = many f) {e f : Nat} (he : e < F) (hne : e ≠ f) : pl P e ≠ [112 + f] := fun q => by
  rw [(h e he).1] at q
  have := (List.cons.inj q).1
  omega
theorem sh_0 {many : Nat → Nat} : shp 0 many 0 0 0 PZ 0 := ⟨rfl, fun f hf => absurd hf (Nat.not_lt_zero f), fun _ => rfl, rfl, rfl⟩
theorem sh_field {F : Nat} {many : Nat → Nat} (hF : F < 5) {w sc : Nat} {b : Bool} (hsc : sc ≤ 1) (hq : 2 ≤ many F ∧ many F ≤ 5) (hw : 1 ≤ w ∧ w ≤ 9) (hb : b = false → w = 1) : lS (ln0 (112 + F) (many F) w sc b) (shp F many 0 0 0) (shp (F + 1) many 0 0 0) := by
  refine ⟨⟨102, _, rfl, rfl⟩, fun {L B s P N r} hQ h => ?_⟩
  obtain ⟨rfl, h2, h3, h4, rfl⟩ := hQ
  obtain ⟨t', k1, k2⟩ := l_field (r := r) hsc (isLt_p hF) hq hw hb (fun f hf => pl_ne h2 hf (by omega)) h4 (h3 rfl) hF h
  refine ⟨t', wF P (many (pn P)) w sc [112 + pn P], 0, r, ⟨rfl, fun f hf => ?_, h3, h4, rfl⟩, k1, k2⟩
  show (if f = pn P then [112 + pn P] else pl P f) = _ ∧ upA (pq P) (pn P) (many (pn P)) f = _
  unfold upA
  by_cases q : f = pn P
  · rw [if_pos q, if_pos q, q]; exact ⟨rfl, rfl⟩
  · rw [if_neg q, if_neg q]; exact h2 f (by omega)
theorem sh_group {F f k e : Nat} {many : Nat → Nat} (hF : F ≤ 5) (hf : f < F) : lS (ln4 (112 + f)) (shp F many 0 e k) (shp F many 1 e k) := by
  refine ⟨⟨103, _, rfl, rfl⟩, fun {L B s P N r} hQ h => ?_⟩
  obtain ⟨rfl, h2, h3, h4, rfl⟩ := hQ
  obtain ⟨t', k1, k2⟩ := l_group (N := N) (r := r) (isLt_p (by omega)) hf (h2 f hf).1 (fun e he => pl_ne h2 (by omega) (by omega)) (h3 rfl) h
  exact ⟨t', wG P f, N, r, ⟨rfl, h2, fun q => absurd q (by decide), h4, rfl⟩, k1, k2⟩
/-- a test of the field f -/
def tO (many : Nat → Nat) (f v u : Nat) (b : Bool) (o : Option (Nat × Nat × Bool)) : Prop := spsO (many f - 1) v u b o
theorem sh_edit1 {F f v u G e k : Nat} {many : Nat → Nat} {b : Bool} {o : Option (Nat × Nat × Bool)} (hM : mnO F many) (hf : f < F) (ho : tO many f v u b o) (he : e < 6) : lS (ln5 (112 + f) v u b o none) (shp F many G e k) (shp F many G (e + 1) k) := by
  refine ⟨⟨101, _, rfl, rfl⟩, fun {L B s P N r} hQ h => ?_⟩
  obtain ⟨rfl, h2, h3, rfl, rfl⟩ := hQ
  have hq := hM.2 f hf
  have e1 := (h2 f hf).2
  obtain ⟨t', V', k1, k2⟩ := l_edit1 (N := N) (r := r) (isLt_p (by have := hM.1; omega)) hf (h2 f hf).1 (fun e he => pl_ne h2 (by omega) (by omega)) (by omega) (by rw [e1]; exact ho) he h
  exact ⟨t', wE P V', N, r, ⟨rfl, h2, h3, rfl, rfl⟩, k1, k2⟩
theorem sh_edit2 {F f v u f' v' u' G e k : Nat} {many : Nat → Nat} {b b' : Bool} {o o' : Option (Nat × Nat × Bool)} (hM : mnO F many) (hf : f < F) (ho : tO many f v u b o) (hf' : f' < F) (ho' : tO many f' v' u' b' o') (hne : f' ≠ f) (he : e < 6) : lS (ln5 (112 + f) v u b o (some (112 + f', v', u', b', o'))) (shp F many G e k) (shp F many G (e + 1) k) := by
  refine ⟨⟨101, _, rfl, rfl⟩, fun {L B s P N r} hQ h => ?_⟩
  obtain ⟨rfl, h2, h3, rfl, rfl⟩ := hQ
  have hq := hM.2 f hf
  have hq' := hM.2 f' hf'
  have e1 := (h2 f hf).2
  have e2 := (h2 f' hf').2
  obtain ⟨t', V', k1, k2⟩ := l_edit2 (N := N) (r := r) (isLt_p (by have := hM.1; omega)) hf (h2 f hf).1 (fun e he => pl_ne h2 (by omega) (by omega)) (by omega) (by rw [e1]; exact ho) (isLt_p (by have := hM.1; omega)) hf' (h2 f' hf').1 (fun e he => pl_ne h2 (by omega) (by omega)) (by omega) (by rw [e2]; exact ho') hne he h
  exact ⟨t', wE P V', N, r, ⟨rfl, h2, h3, rfl, rfl⟩, k1, k2⟩
theorem sh_row {F G e k : Nat} {many : Nat → Nat} {as : List Nat} (hM : mnO F many) (hF : F ≠ 0) (hk : k < 40) (hl : as.length = F) (ha : ∀ i, i < F → as.getD i 0 = 63 ∨ ∃ v, v < many i ∧ as.getD i 0 = 48 + v) : lS (ln8 as) (shp F many G e k) (shp F many G e (k + 1)) := by
  refine ⟨⟨114, _, rfl, rfl⟩, fun {L B s P N r} hQ h => ?_⟩
  obtain ⟨rfl, h2, h3, rfl, rfl⟩ := hQ
  obtain ⟨t', r', k1, k2⟩ := l_row (N := N) (r := r) (fun f hf => by rw [(h2 f hf).2]; exact (hM.2 f hf).2) hF hk hl (fun i hi => by
    rcases ha i hi with q | ⟨v, hv, q⟩
    · exact Or.inl q
    · exact Or.inr ⟨v, by rw [(h2 i hi).2]; exact hv, q⟩) h
  exact ⟨t', P, N + 1, r', ⟨rfl, h2, h3, rfl, rfl⟩, k1, k2⟩
theorem shp_mn {F G e k : Nat} {many many' : Nat → Nat} (h : ∀ f, f < F → many f = many' f) : shp F many G e k P N → shp F many' G e k P N := fun ⟨a, b, c⟩ => ⟨a, fun f hf => ⟨(b f hf).1, (b f hf).2.trans (h f hf)⟩, c⟩
end Ld
