
/-! ===== small facts for the walks ===== -/
theorem kl_0 : Int64.ofNat ((0 : Fin 2) : Nat) = (0 : Int64) := by decide
theorem kl_1 : Int64.ofNat ((1 : Fin 2) : Nat) = (1 : Int64) := by decide
def ztI (r : Int32 ⊕ String) : Option Value ⊕ String := match r with | .inl v => .inl (some (.int v)) | .inr e => .inr e
def ztJ (r : Int64 ⊕ String) : Option Value ⊕ String := match r with | .inl v => .inl (some (.long v)) | .inr e => .inr e
def ztV (r : Unit ⊕ String) : Option Value ⊕ String := match r with | .inl _ => .inl none | .inr e => .inr e
def zel2 {V S R : Type} (p : (V ⊕ String) × S) (f : V → S → Option R) (g : String → S → Option R) : Option R := match p with | (.inl v, s) => f v s | (.inr e, s) => g e s
theorem zel_l {V R : Type} {v : V} {f : V → Option R} {g : String → Option R} {o : Option R} (h : zel (.inl v) f g = o) : f v = o := h
theorem zel_r {V R : Type} {e : String} {f : V → Option R} {g : String → Option R} {o : Option R} (h : zel (.inr e) f g = o) : g e = o := h
theorem zel2_l {V S R : Type} {v : V} {s : S} {f : V → S → Option R} {g : String → S → Option R} {o : Option R} (h : zel2 (.inl v, s) f g = o) : f v s = o := h
theorem zel2_r {V S R : Type} {e : String} {s : S} {f : V → S → Option R} {g : String → S → Option R} {o : Option R} (h : zel2 (.inr e, s) f g = o) : g e s = o := h
theorem zne_toInt {v w : Int32} (h : ¬ v = w) : ¬ v.toInt = w.toInt := fun q => h (Int32.toInt_inj.mp q)
theorem zsp_dl (σ : zS) (c : Nat) : zD[zsp σ c]? = some (.inr (0, 64)) := by
  unfold zsp
  split
  · rfl
  · rfl
abbrev zgr (σ : zS) (C : Nat) : Prop := σ.2.2.2 ≤ C
theorem zpc {x : zXx} {F pc c d C : Nat} {ls : List (Nat × Value)} {st : List Value} {dl : List zDs} {σ σ' τ : zS} (hq : σ'.2.2.2 = σ.2.2.2) (h : zgr σ' C ∧ zK x F pc ls st dl τ (c + (C / 64 - σ'.2.2.2 / 64)) (d + 2 * (C - σ'.2.2.2))) : zgr σ C ∧ zK x F pc ls st dl τ (c + (C / 64 - σ.2.2.2 / 64)) (d + 2 * (C - σ.2.2.2)) := by
  unfold zgr at h ⊢
  rw [hq] at h
  exact h
theorem zbr {c p a b k : Prop} (kt : c → p ∧ a) (kf : ¬ c → p ∧ b) (row : (c → a) → (¬ c → b) → k) : p ∧ k := by
  by_cases hc : c
  · exact ⟨(kt hc).1, row (fun _ => (kt hc).2) (fun q => (q hc).elim)⟩
  · exact ⟨(kf hc).1, row (fun q => (hc q).elim) (fun _ => (kf hc).2)⟩
theorem zok_sp (σ : zS) (c : Nat) : zok 73 (.ref (zsp σ c)) = true := by
  unfold zsp
  split <;> rfl
theorem zsp_dl0 (σ : zS) : zD[zsp σ 0]? = some (.inr (0, 64)) := zsp_dl σ 0
theorem zsp_dl1 (σ : zS) : zD[zsp σ 1]? = some (.inr (0, 64)) := zsp_dl σ 1
theorem kb_6 : (Int8.ofInt (6)).toInt32 = (6 : Int32) := by decide
theorem kb_7 : (Int8.ofInt (7)).toInt32 = (7 : Int32) := by decide
theorem kb_8 : (Int8.ofInt (8)).toInt32 = (8 : Int32) := by decide
theorem kb_9 : (Int8.ofInt (9)).toInt32 = (9 : Int32) := by decide
theorem kb_10 : (Int8.ofInt (10)).toInt32 = (10 : Int32) := by decide
theorem kb_11 : (Int8.ofInt (11)).toInt32 = (11 : Int32) := by decide
theorem kb_12 : (Int8.ofInt (12)).toInt32 = (12 : Int32) := by decide
theorem kb_15 : (Int8.ofInt (15)).toInt32 = (15 : Int32) := by decide
theorem kb_16 : (Int8.ofInt (16)).toInt32 = (16 : Int32) := by decide
theorem kb_20 : (Int8.ofInt (20)).toInt32 = (20 : Int32) := by decide
theorem kb_24 : (Int8.ofInt (24)).toInt32 = (24 : Int32) := by decide
theorem kb_30 : (Int8.ofInt (30)).toInt32 = (30 : Int32) := by decide
theorem kb_31 : (Int8.ofInt (31)).toInt32 = (31 : Int32) := by decide
theorem kb_32 : (Int8.ofInt (32)).toInt32 = (32 : Int32) := by decide
theorem kb_40 : (Int8.ofInt (40)).toInt32 = (40 : Int32) := by decide
theorem kb_41 : (Int8.ofInt (41)).toInt32 = (41 : Int32) := by decide
theorem kb_44 : (Int8.ofInt (44)).toInt32 = (44 : Int32) := by decide
theorem kb_45 : (Int8.ofInt (45)).toInt32 = (45 : Int32) := by decide
theorem kb_48 : (Int8.ofInt (48)).toInt32 = (48 : Int32) := by decide
theorem kb_57 : (Int8.ofInt (57)).toInt32 = (57 : Int32) := by decide
theorem kb_59 : (Int8.ofInt (59)).toInt32 = (59 : Int32) := by decide
theorem kb_63 : (Int8.ofInt (63)).toInt32 = (63 : Int32) := by decide
theorem kb_64 : (Int8.ofInt (64)).toInt32 = (64 : Int32) := by decide
theorem kb_97 : (Int8.ofInt (97)).toInt32 = (97 : Int32) := by decide
theorem kb_100 : (Int8.ofInt (100)).toInt32 = (100 : Int32) := by decide
theorem kb_122 : (Int8.ofInt (122)).toInt32 = (122 : Int32) := by decide
theorem kc_m1 : Int32.ofInt (-1) = (-1 : Int32) := by decide
theorem kc_0 : Int32.ofInt (0) = (0 : Int32) := by decide
theorem kc_1 : Int32.ofInt (1) = (1 : Int32) := by decide
theorem kc_2 : Int32.ofInt (2) = (2 : Int32) := by decide
theorem kc_3 : Int32.ofInt (3) = (3 : Int32) := by decide
theorem kc_4 : Int32.ofInt (4) = (4 : Int32) := by decide
theorem kc_5 : Int32.ofInt (5) = (5 : Int32) := by decide
theorem ki_m8 (a : Int32) : a + Int32.ofInt (-8) = a + (-8 : Int32) := rfl
theorem ki_m1 (a : Int32) : a + Int32.ofInt (-1) = a + (-1 : Int32) := rfl
theorem ki_1 (a : Int32) : a + Int32.ofInt (1) = a + (1 : Int32) := rfl
theorem ks_200 : (Int16.ofInt (200)).toInt32 = (200 : Int32) := by decide
theorem ks_255 : (Int16.ofInt (255)).toInt32 = (255 : Int32) := by decide
theorem ks_400 : (Int16.ofInt (400)).toInt32 = (400 : Int32) := by decide
theorem ks_615 : (Int16.ofInt (615)).toInt32 = (615 : Int32) := by decide
theorem ks_3000 : (Int16.ofInt (3000)).toInt32 = (3000 : Int32) := by decide
theorem ks_3125 : (Int16.ofInt (3125)).toInt32 = (3125 : Int32) := by decide
theorem ks_30000 : (Int16.ofInt (30000)).toInt32 = (30000 : Int32) := by decide
theorem hatRX10_112 : ∀ w ∈ (vx_at0 RX10 112 "java/lang/IllegalArgumentException" ["java/lang/RuntimeException", "java/lang/Exception"]).filter goodWord, w ∈ zT := zT_sub (by decide +kernel)
theorem hbdRX10_112 : ∀ w ∈ (vx_at0 RX10 112 "java/lang/IllegalArgumentException" ["java/lang/RuntimeException", "java/lang/Exception"]).filter (fun w => !goodWord w), w ∈ zdcl.map Cond.declares ++ zexs.map (fun E => Cond.castable E E) := by decide +kernel
theorem hgdRX10_112 : ∀ w ∈ Cond.classLink RX10 110 "java/lang/IllegalArgumentException" :: Cond.initialized "java/lang/IllegalArgumentException" :: vx_at0 RX10 112 "java/lang/IllegalArgumentException" ["java/lang/RuntimeException", "java/lang/Exception"], vx_ot w = true := by decide +kernel
theorem hatRX10_378 : ∀ w ∈ (vx_at0 RX10 378 "java/lang/IndexOutOfBoundsException" ["java/lang/RuntimeException", "java/lang/Exception"]).filter goodWord, w ∈ zT := zT_sub (by decide +kernel)
theorem hbdRX10_378 : ∀ w ∈ (vx_at0 RX10 378 "java/lang/IndexOutOfBoundsException" ["java/lang/RuntimeException", "java/lang/Exception"]).filter (fun w => !goodWord w), w ∈ zdcl.map Cond.declares ++ zexs.map (fun E => Cond.castable E E) := by decide +kernel
theorem hgdRX10_378 : ∀ w ∈ Cond.classLink RX10 376 "java/lang/IndexOutOfBoundsException" :: Cond.initialized "java/lang/IndexOutOfBoundsException" :: vx_at0 RX10 378 "java/lang/IndexOutOfBoundsException" ["java/lang/RuntimeException", "java/lang/Exception"], vx_ot w = true := by decide +kernel
theorem hatRX10_145 : ∀ w ∈ (vx_at0 RX10 145 "java/util/NoSuchElementException" ["java/lang/RuntimeException", "java/lang/Exception"]).filter goodWord, w ∈ zT := zT_sub (by decide +kernel)
theorem hbdRX10_145 : ∀ w ∈ (vx_at0 RX10 145 "java/util/NoSuchElementException" ["java/lang/RuntimeException", "java/lang/Exception"]).filter (fun w => !goodWord w), w ∈ zdcl.map Cond.declares ++ zexs.map (fun E => Cond.castable E E) := by decide +kernel
theorem hgdRX10_145 : ∀ w ∈ Cond.classLink RX10 143 "java/util/NoSuchElementException" :: Cond.initialized "java/util/NoSuchElementException" :: vx_at0 RX10 145 "java/util/NoSuchElementException" ["java/lang/RuntimeException", "java/lang/Exception"], vx_ot w = true := by decide +kernel
theorem hatRX10_222 : ∀ w ∈ (vx_at0 RX10 222 "java/lang/IllegalStateException" ["java/lang/RuntimeException", "java/lang/Exception"]).filter goodWord, w ∈ zT := zT_sub (by decide +kernel)
theorem hbdRX10_222 : ∀ w ∈ (vx_at0 RX10 222 "java/lang/IllegalStateException" ["java/lang/RuntimeException", "java/lang/Exception"]).filter (fun w => !goodWord w), w ∈ zdcl.map Cond.declares ++ zexs.map (fun E => Cond.castable E E) := by decide +kernel
theorem hgdRX10_222 : ∀ w ∈ Cond.classLink RX10 220 "java/lang/IllegalStateException" :: Cond.initialized "java/lang/IllegalStateException" :: vx_at0 RX10 222 "java/lang/IllegalStateException" ["java/lang/RuntimeException", "java/lang/Exception"], vx_ot w = true := by decide +kernel
