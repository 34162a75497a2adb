/-! ===== mender by contract ===== -/
section ZSl
variable {x : zXx} {cc : ByteArray} {nL : Nat} {own : String} {ret : Option FieldType} {F pc : Nat} {ls : List (Nat × Value)} {st : List Value} {dl : List zDs} {σ : zS} {A B : Nat}
/-- a constructor that rests on zPx -/
theorem z_specX {bytes : ByteArray} {maxL fr nc ns n index i A' B' : Nat} {y : MethodName} {rest : List Value} {dl' : List zDs} {σ' : zS} (hG : zG x cc nL own ret) (hPx : zPx x.2.2.2.2.1) (nn : Nat) (As : List Value) (hC : zCx (zl0 x) y (.code y bytes maxL none) fr nc ns (.ref i :: As) dl σ (.inl none, dl', σ')) (hy : zY y bytes maxL none n) (hy1 : y.name = "<init>") (hs : Cond.instanceMethod y ∈ zT) (hl : Cond.methodLink own index y ∈ zT) (hd : decode cc pc = .ok (.invokespecial index, 3)) (hn : As.length = n) (hF : fr + 1 ≤ F)
    (hnn : nn ≤ dl.length) (hle : dl.length ≤ dl'.length) (hst : rest.all (zok nn) = true) (hls : ls.all (fun q => zok nn q.2) = true) (hA : A = A' + nc) (hB : B = B' + ns) (hW : (rest.map fun v => v.category).sum ≤ 8) (hstk : st = As.reverse ++ .ref i :: rest)
    (kk : zK x F (pc + 3) ls rest dl' σ' A' B') : zK x F pc ls st dl σ A B := by
  subst hstk
  refine z_after (v := none) hG hnn hle hst hls hA hB kk ?_
  obtain ⟨p, l, e, R, s, m, args, below, meth, c, D, ca, b0, ad0, n0, tg⟩ := x
  obtain ⟨hx, hb, hml, hown, hts, hret, hlk, htab, hKs, hOs, hfl⟩ := hG
  intro ad H locs la cells slots h1 h3 h4 h5 h7 h8 h6 h9 h10
  exact ⟨_, vx_ofRun (va_runI (As := As.map (zr ad)) ⟨hx, hb, rfl, hown, hts⟩ (vx_toMet (hC D ca b0 ad) (fun E st t h => by obtain ⟨⟨ad', h1, -⟩, -⟩ := h; cases h1)) ⟨zC_callB hts hy hl hF h9 h10, hy1, hts _ hs⟩ ⟨zCx_blind, fun U hU hW => ⟨rfl, ⟨⟨by rw [hU]; exact h3, va_K.moved hW.alike hKs, h4, by rw [hU]; exact ((hOs.1.kept h5.1 h5.2.1).moved hW.alike).ad h1.hi⟩, (hOs.2.warm hW).ad h1.hi⟩, zPx.warm hW hPx⟩⟩ rfl (by rw [List.length_map]; exact hn) h6 (by rw [List.map_append, List.map_reverse]; rfl) (lv_room (by rw [List.map_map]; exact Nat.le_trans (Nat.le_of_eq (congrArg List.sum (List.map_congr_left fun v _ => zr_cat ad v))) hW)) hd ⟨h7, h8⟩)⟩
end ZSl
theorem cI_hi {S : zSt} {g h : zS} (hc : cI S g) (h1 : ∀ c, c < 42 → h.1 c = g.1 c ∧ h.2.1 c = g.2.1 c) (h2 : h.2.2 = g.2.2) : cI S h := cI_fr (K := fun c => decide (42 ≤ c)) (fun c hc => (Bool.or_eq_false_iff.mp hc).2) ⟨fun c hc => h1 c (Nat.lt_of_not_le (of_decide_eq_false hc)), fun z => by rw [h2]; exact z, by rw [h2]⟩ hc
theorem cI_mix {S : zSt} {σ σ' : zS} (hc : cI S σ') : cI S (zmix σ σ') := cI_hi hc (fun _ h => zmix_lo h) rfl
theorem zst_hi {σ σ' : zS} {s b : Nat} {T : List Nat} (h : ∀ c, 42 ≤ c → σ'.1 c = σ.1 c ∧ σ'.2.1 c = σ.2.1 c) (hs : 42 ≤ s) (hb : 42 ≤ b) (hU : zstL σ s b T) : zstL σ' s b T := by
  obtain ⟨u1, u2, u3, u4, u5⟩ := hU
  have hL : zLn σ' b = zLn σ b := congrArg (fun z => (z 0).toNatClampNeg) (h b hb).2
  exact ⟨by rw [(h s hs).1]; exact u1, hL.trans u2, u3, by rw [(h b hb).1]; exact u4, by rw [(h b hb).1]; exact u5⟩
/-- the class's first state -/
def zFc : zS := zi (zi (zi (zi zS0 3 6 (-1 : Int32)) 11 6 (-1 : Int32)) 0 11 (0 : Int32)) 0 12 (-1 : Int32)
abbrev zSF (tn : Nat) (tb : Nat → Nat) : zSt := (PZ, (0, fun _ => 0, 0, fun _ => 0, fun _ _ => 0), tn, tb, 0, fun _ => 0, 999)
theorem cI_first (tb : Nat → Nat) : cI (zSF 0 tb) zFc := by
  refine ⟨PZ_ok, ⟨⟨rfl, fun f hf => absurd hf (Nat.not_lt_zero f), fun f hf => absurd hf (Nat.not_lt_zero f), fun f hf => absurd hf (Nat.not_lt_zero f), rfl, rfl, fun e he => absurd he (Nat.not_lt_zero e), fun f hf => absurd hf (Nat.not_lt_zero f)⟩, fun f hf => absurd hf (Nat.not_lt_zero f), fun q => absurd rfl q, ⟨fun _ => 0, fun k hk => ⟨?_, Nat.zero_lt_one⟩, fun S hS => ⟨0, Nat.zero_lt_one, ?_⟩, fun i j hij hj => ?_⟩, rfl, Nat.zero_le _⟩, ⟨⟨rfl, Nat.zero_le _, fun k hk => absurd hk (Nat.not_lt_zero k)⟩, ⟨rfl, Nat.zero_le _, fun k hk => absurd hk (Nat.not_lt_zero k)⟩, fun _ => ⟨rfl, fun p hp => absurd hp (Nat.not_lt_zero p)⟩⟩, ⟨rfl, Nat.zero_le _, fun k hk => absurd hk (Nat.not_lt_zero k)⟩, ⟨rfl, Nat.zero_le _, fun k hk => absurd hk (Nat.not_lt_zero k), fun k hk => rfl⟩, rfl, Or.inl ⟨rfl, by decide, by decide⟩⟩
  · have hk' : k < 1 := hk
    have : k = 0 := by omega
    subst this
    rfl
  · have hS' : S < 1 := hS
    show 0 = S
    omega
  · have hj' : j < 1 := hj
    omega
theorem zE95 : zE_95 = zD := by decide +kernel
theorem b8_shr {W s : Nat} (hs : s ≤ 24) : b8 (nI W >>> (nI s &&& 31)) = (W >>> s) % 256 := by
  unfold b8
  rw [Int32.toBitVec_and, Int32.toBitVec_shiftRight]
  show ((nI W).toBitVec.sshiftRight' ((nI s &&& 31).toBitVec.smod 32) &&& (255 : Int32).toBitVec).toNat = _
  rw [nI_smod (by omega), BitVec.sshiftRight'_ofNat_eq_sshiftRight]
  show ((BitVec.ofNat 32 W).sshiftRight (s % 2 ^ 32) &&& BitVec.ofNat 32 255).toNat = _
  rw [Nat.mod_eq_of_lt (show s < 2 ^ 32 by omega)]
  apply Nat.eq_of_testBit_eq
  intro t
  rw [BitVec.toNat_and, Nat.testBit_and, show (256 : Nat) = 2 ^ 8 from rfl, Nat.testBit_mod_two_pow, Nat.testBit_shiftRight]
  by_cases ht : t < 8
  · have h1 : (BitVec.ofNat 32 255).toNat.testBit t = true := by
      have : ∀ t, t < 8 → (BitVec.ofNat 32 255).toNat.testBit t = true := by decide
      exact this t ht
    rw [h1, Bool.and_true, decide_eq_true ht, Bool.true_and, ← BitVec.getLsbD, BitVec.getLsbD_sshiftRight]
    rw [show decide (32 ≤ t) = false from decide_eq_false (by omega), if_pos (show s + t < 32 by omega), BitVec.getLsbD_ofNat, decide_eq_true (show s + t < 32 by omega)]
    simp
  · have h1 : (BitVec.ofNat 32 255).toNat.testBit t = false := Nat.testBit_lt_two_pow (Nat.lt_of_lt_of_le (show (BitVec.ofNat 32 255).toNat < 2 ^ 8 by decide) (Nat.pow_le_pow_right (n := 2) (by decide) (by omega)))
    rw [h1, Bool.and_false, decide_eq_false ht, Bool.false_and]
theorem wwd_bitB (c : Nat → Nat) : ∀ i a t, (wwd c i a).testBit t = true ↔ ∃ j, j < i ∧ j / 4 = a ∧ 24 - 8 * (j % 4) ≤ t ∧ (c j).testBit (t - (24 - 8 * (j % 4))) = true
  | 0, a, t => by
    show (0 : Nat).testBit t = true ↔ _
    rw [Nat.zero_testBit]
    exact ⟨fun h => (by cases h), fun ⟨j, hj, _⟩ => absurd hj (Nat.not_lt_zero j)⟩
  | i + 1, a, t => by
    have ih := wwd_bitB c i a t
    show (if a = i / 4 then wwd c i a ||| (c i <<< (24 - 8 * (i % 4))) else wwd c i a).testBit t = true ↔ _
    by_cases h : a = i / 4
    · rw [if_pos h, Nat.testBit_or, Bool.or_eq_true, ih, Nat.testBit_shiftLeft, Bool.and_eq_true, decide_eq_true_eq]
      constructor
      · rintro (⟨j, h1, h2⟩ | ⟨h1, h2⟩)
        · exact ⟨j, by omega, h2⟩
        · exact ⟨i, by omega, h.symm, h1, h2⟩
      · rintro ⟨j, h1, h2, h3, h4⟩
        by_cases hj : j = i
        · subst hj
          exact Or.inr ⟨h3, h4⟩
        · exact Or.inl ⟨j, by omega, h2, h3, h4⟩
    · rw [if_neg h, ih]
      constructor
      · rintro ⟨j, h1, h2⟩
        exact ⟨j, by omega, h2⟩
      · rintro ⟨j, h1, h2, h3⟩
        exact ⟨j, by have : j ≠ i := fun e => h (by rw [← h2, e]); omega, h2, h3⟩
/-- the letters out of the words, any bytes -/
theorem fb_wwB {c : Nat → Nat} (hc : ∀ j, c j < 256) {m j : Nat} (hj : j < 20) : fbA (fun a => nI (wwd c m a)) j = if j < m then c j else 0 := by
  unfold fbA
  rw [b8_shr (by omega)]
  apply Nat.eq_of_testBit_eq
  intro t
  rw [show (256 : Nat) = 2 ^ 8 from rfl, Nat.testBit_mod_two_pow, Nat.testBit_shiftRight]
  by_cases ht : t < 8
  · rw [decide_eq_true ht, Bool.true_and]
    by_cases hb : (wwd c m (j / 4)).testBit (24 - 8 * (j % 4) + t) = true
    · obtain ⟨q, h1, h2, h3, h4⟩ := (wwd_bitB c m (j / 4) (24 - 8 * (j % 4) + t)).mp hb
      have hq : q = j := by
        by_cases hlt : 24 - 8 * (j % 4) + t - (24 - 8 * (q % 4)) < 8
        · omega
        · rw [Nat.testBit_lt_two_pow (Nat.lt_of_lt_of_le (hc q) (Nat.pow_le_pow_right (n := 2) (by decide) (show 8 ≤ 24 - 8 * (j % 4) + t - (24 - 8 * (q % 4)) by omega)))] at h4
          cases h4
      subst hq
      rw [hb, if_pos h1]
      rw [show 24 - 8 * (q % 4) + t - (24 - 8 * (q % 4)) = t by omega] at h4
      exact h4.symm
    · have hb' : (wwd c m (j / 4)).testBit (24 - 8 * (j % 4) + t) = false := by
        cases h : (wwd c m (j / 4)).testBit (24 - 8 * (j % 4) + t)
        · rfl
        · exact absurd h hb
      rw [hb']
      by_cases hm : j < m
      · rw [if_pos hm]
        cases h : (c j).testBit t
        · rfl
        · exact absurd ((wwd_bitB c m (j / 4) (24 - 8 * (j % 4) + t)).mpr ⟨j, hm, rfl, by omega, by rw [show 24 - 8 * (j % 4) + t - (24 - 8 * (j % 4)) = t by omega]; exact h⟩) hb
      · rw [if_neg hm, Nat.zero_testBit]
  · rw [decide_eq_false ht, Bool.false_and]
    by_cases hm : j < m
    · rw [if_pos hm, Nat.testBit_lt_two_pow (Nat.lt_of_lt_of_le (hc j) (Nat.pow_le_pow_right (n := 2) (by decide) (show 8 ≤ t by omega)))]
    · rw [if_neg hm, Nat.zero_testBit]
abbrev zEt : List zDs := [zDi, zSB 44, .inr (5, 0), .inr (6, 0), zST 47, .inr (5, 0)]
abbrev zEu : List zDs := [zDi, zSB 44, .inr (5, 0), .inr (6, 0), zST 47, .inr (5, 0), .inr (0, 5)]
theorem zWt_e : zWt = zD ++ zEt := by
  show (((zD ++ [zDi]) ++ [zSB 44, .inr (5, 0)]) ++ [.inr (6, 0)]) ++ [zST 47, .inr (5, 0)] = _
  simp only [List.append_assoc]
  rfl
theorem zEu_e : zD ++ zEt ++ [(.inr (0, 5) : zDs)] = zD ++ zEu := by
  rw [List.append_assoc]
  rfl
theorem zEt_f : zEt.all zfr1 = true := by decide
theorem zEu_f : zEu.all zfr1 = true := by decide
theorem zEt_M : zstM (zD ++ zEt) 46 47 := ⟨rfl, ⟨0, rfl⟩, by decide, by decide, rfl⟩
theorem zEu_M : zstM (zD ++ zEu) 46 47 := ⟨rfl, ⟨0, rfl⟩, by decide, by decide, rfl⟩
theorem zEt_0 : (zD ++ zEt)[0]? = some (.inl (8, [(1, 1), (1, 3), (1, 11), (1, 19), (1, 20), (1, 26), (1, 31), (1, 34), (1, 37), (1, 40), (1, 41), (0, 0), (0, 0)])) := by rfl
theorem zEu_0 : (zD ++ zEu)[0]? = some (.inl (8, [(1, 1), (1, 3), (1, 11), (1, 19), (1, 20), (1, 26), (1, 31), (1, 34), (1, 37), (1, 40), (1, 41), (0, 0), (0, 0)])) := by rfl
theorem zEt_46 : (zD ++ zEt)[46]? = some (zST 47) := by rfl
theorem zEu_46 : (zD ++ zEu)[46]? = some (zST 47) := by rfl
theorem zEu_48 : (zD ++ zEu)[48]? = some (.inr (0, 5)) := by rfl
theorem zoT0 : zoks (zD ++ zEt).length (.ref 0) = true := by rfl
theorem zoT46 : zoks (zD ++ zEt).length (.ref 46) = true := by rfl
theorem zoU0 : zoks (zD ++ zEu).length (.ref 0) = true := by rfl
theorem zoU46 : zoks (zD ++ zEu).length (.ref 46) = true := by rfl
theorem zoU48 : zoks (zD ++ zEu).length (.ref 48) = true := by rfl
/-- what a walk of mender goes by -/
abbrev zHm (l : Launch) (N : Nat) (scr : Nat → Int32) (x : zXx) : Prop := zG x cL_mender 7 RL (Option.some (Jvm.ClassFile.FieldType.object "EditMender")) ∧ zl0 x = l ∧ ¬ zca x 99 = zca x 98 ∧ x.2.2.2.2.2.2.2.2.2.2.2.2.2.2.1 = 0 ∧ zscr (zadx x) N scr ∧ zPx x.2.2.2.2.1
/-- the walk's cells: the class's state, the text; the words so far -/
def mnW (S : zSt) (T : List Nat) (σ : zS) : Prop := cI S σ ∧ zstL σ 46 47 T
theorem mnW_hi {S : zSt} {T : List Nat} {σ σ' : zS} (h : mnW S T σ) (h1 : ∀ c, c ≠ 48 → σ'.1 c = σ.1 c ∧ σ'.2.1 c = σ.2.1 c) (h2 : σ'.2.2 = σ.2.2) : mnW S T σ' := by
  refine ⟨cI_hi h.1 (fun c hc => h1 c (by omega)) h2, ?_⟩
  obtain ⟨u1, u2, u3, u4, u5⟩ := h.2
  have hL : zLn σ' 47 = zLn σ 47 := congrArg (fun z => (z 0).toNatClampNeg) (h1 47 (by decide)).2
  exact ⟨by rw [(h1 46 (by decide)).1]; exact u1, hL.trans u2, u3, by rw [(h1 47 (by decide)).1]; exact u4, by rw [(h1 47 (by decide)).1]; exact u5⟩
theorem dL_mender_0 : decode cL_mender 0 = .ok (.new 71, 3) := by decide +kernel
theorem dL_mender_3 : decode cL_mender 3 = .ok (.dup, 1) := by decide +kernel
theorem dL_mender_4 : decode cL_mender 4 = .ok (.invokespecial 73, 3) := by decide +kernel
theorem dL_mender_7 : decode cL_mender 7 = .ok (.astore_n 1, 1) := by decide +kernel
theorem dL_mender_8 : decode cL_mender 8 = .ok (.new 12, 3) := by decide +kernel
theorem dL_mender_11 : decode cL_mender 11 = .ok (.dup, 1) := by decide +kernel
theorem dL_mender_12 : decode cL_mender 12 = .ok (.aload_n 0, 1) := by decide +kernel
theorem dL_mender_13 : decode cL_mender 13 = .ok (.iconst 0, 1) := by decide +kernel
theorem dL_mender_14 : decode cL_mender 14 = .ok (.invokestatic 74, 3) := by decide +kernel
theorem dL_mender_17 : decode cL_mender 17 = .ok (.bipush 31, 2) := by decide +kernel
theorem dL_mender_19 : decode cL_mender 19 = .ok (.imul, 1) := by decide +kernel
theorem dL_mender_20 : decode cL_mender 20 = .ok (.aload_n 0, 1) := by decide +kernel
theorem dL_mender_21 : decode cL_mender 21 = .ok (.iconst 1, 1) := by decide +kernel
theorem dL_mender_22 : decode cL_mender 22 = .ok (.invokestatic 74, 3) := by decide +kernel
theorem dL_mender_25 : decode cL_mender 25 = .ok (.iadd, 1) := by decide +kernel
theorem dL_mender_26 : decode cL_mender 26 = .ok (.invokespecial 78, 3) := by decide +kernel
theorem dL_mender_29 : decode cL_mender 29 = .ok (.invokestatic 81, 3) := by decide +kernel
theorem dL_mender_32 : decode cL_mender 32 = .ok (.astore_n 2, 1) := by decide +kernel
theorem dL_mender_33 : decode cL_mender 33 = .ok (.aload_n 1, 1) := by decide +kernel
theorem dL_mender_34 : decode cL_mender 34 = .ok (.iconst 0, 1) := by decide +kernel
theorem dL_mender_35 : decode cL_mender 35 = .ok (.invokevirtual 85, 3) := by decide +kernel
theorem dL_mender_38 : decode cL_mender 38 = .ok (.istore_n 3, 1) := by decide +kernel
theorem dL_mender_39 : decode cL_mender 39 = .ok (.iconst 0, 1) := by decide +kernel
theorem dL_mender_40 : decode cL_mender 40 = .ok (.istore 4, 2) := by decide +kernel
theorem dL_mender_42 : decode cL_mender 42 = .ok (.iload 4, 2) := by decide +kernel
theorem dL_mender_44 : decode cL_mender 44 = .ok (.aload_n 2, 1) := by decide +kernel
theorem dL_mender_45 : decode cL_mender 45 = .ok (.invokevirtual 89, 3) := by decide +kernel
theorem dL_mender_48 : decode cL_mender 48 = .ok (.if_icmp .ge 98, 3) := by decide +kernel
theorem dL_mender_51 : decode cL_mender 51 = .ok (.iconst 5, 1) := by decide +kernel
theorem dL_mender_52 : decode cL_mender 52 = .ok (.newarray .int, 2) := by decide +kernel
theorem dL_mender_54 : decode cL_mender 54 = .ok (.astore 5, 2) := by decide +kernel
theorem dL_mender_56 : decode cL_mender 56 = .ok (.iconst 0, 1) := by decide +kernel
theorem dL_mender_57 : decode cL_mender 57 = .ok (.istore 6, 2) := by decide +kernel
theorem dL_mender_59 : decode cL_mender 59 = .ok (.iload 6, 2) := by decide +kernel
theorem dL_mender_61 : decode cL_mender 61 = .ok (.bipush 20, 2) := by decide +kernel
theorem dL_mender_63 : decode cL_mender 63 = .ok (.if_icmp .ge 51, 3) := by decide +kernel
theorem dL_mender_66 : decode cL_mender 66 = .ok (.iload 4, 2) := by decide +kernel
theorem dL_mender_68 : decode cL_mender 68 = .ok (.iload 6, 2) := by decide +kernel
theorem dL_mender_70 : decode cL_mender 70 = .ok (.iadd, 1) := by decide +kernel
theorem dL_mender_71 : decode cL_mender 71 = .ok (.aload_n 2, 1) := by decide +kernel
theorem dL_mender_72 : decode cL_mender 72 = .ok (.invokevirtual 89, 3) := by decide +kernel
theorem dL_mender_75 : decode cL_mender 75 = .ok (.if_icmp .ge 39, 3) := by decide +kernel
theorem dL_mender_78 : decode cL_mender 78 = .ok (.aload 5, 2) := by decide +kernel
theorem dL_mender_80 : decode cL_mender 80 = .ok (.iload 6, 2) := by decide +kernel
theorem dL_mender_82 : decode cL_mender 82 = .ok (.iconst 4, 1) := by decide +kernel
theorem dL_mender_83 : decode cL_mender 83 = .ok (.idiv, 1) := by decide +kernel
theorem dL_mender_84 : decode cL_mender 84 = .ok (.dup2, 1) := by decide +kernel
theorem dL_mender_85 : decode cL_mender 85 = .ok (.iaload, 1) := by decide +kernel
theorem dL_mender_86 : decode cL_mender 86 = .ok (.aload_n 2, 1) := by decide +kernel
theorem dL_mender_87 : decode cL_mender 87 = .ok (.iload 4, 2) := by decide +kernel
theorem dL_mender_89 : decode cL_mender 89 = .ok (.iload 6, 2) := by decide +kernel
theorem dL_mender_91 : decode cL_mender 91 = .ok (.iadd, 1) := by decide +kernel
theorem dL_mender_92 : decode cL_mender 92 = .ok (.invokevirtual 92, 3) := by decide +kernel
theorem dL_mender_95 : decode cL_mender 95 = .ok (.bipush 24, 2) := by decide +kernel
theorem dL_mender_97 : decode cL_mender 97 = .ok (.bipush 8, 2) := by decide +kernel
theorem dL_mender_99 : decode cL_mender 99 = .ok (.iload 6, 2) := by decide +kernel
theorem dL_mender_101 : decode cL_mender 101 = .ok (.iconst 4, 1) := by decide +kernel
theorem dL_mender_102 : decode cL_mender 102 = .ok (.irem, 1) := by decide +kernel
theorem dL_mender_103 : decode cL_mender 103 = .ok (.imul, 1) := by decide +kernel
theorem dL_mender_104 : decode cL_mender 104 = .ok (.isub, 1) := by decide +kernel
theorem dL_mender_105 : decode cL_mender 105 = .ok (.ishl, 1) := by decide +kernel
theorem dL_mender_106 : decode cL_mender 106 = .ok (.ior, 1) := by decide +kernel
theorem dL_mender_107 : decode cL_mender 107 = .ok (.iastore, 1) := by decide +kernel
theorem dL_mender_108 : decode cL_mender 108 = .ok (.iinc 6 1, 3) := by decide +kernel
theorem dL_mender_111 : decode cL_mender 111 = .ok (.goto (-52), 3) := by decide +kernel
theorem dL_mender_114 : decode cL_mender 114 = .ok (.aload_n 1, 1) := by decide +kernel
theorem dL_mender_115 : decode cL_mender 115 = .ok (.aload 5, 2) := by decide +kernel
theorem dL_mender_117 : decode cL_mender 117 = .ok (.iconst 0, 1) := by decide +kernel
theorem dL_mender_118 : decode cL_mender 118 = .ok (.iaload, 1) := by decide +kernel
theorem dL_mender_119 : decode cL_mender 119 = .ok (.aload 5, 2) := by decide +kernel
theorem dL_mender_121 : decode cL_mender 121 = .ok (.iconst 1, 1) := by decide +kernel
theorem dL_mender_122 : decode cL_mender 122 = .ok (.iaload, 1) := by decide +kernel
theorem dL_mender_123 : decode cL_mender 123 = .ok (.aload 5, 2) := by decide +kernel
theorem dL_mender_125 : decode cL_mender 125 = .ok (.iconst 2, 1) := by decide +kernel
theorem dL_mender_126 : decode cL_mender 126 = .ok (.iaload, 1) := by decide +kernel
theorem dL_mender_127 : decode cL_mender 127 = .ok (.aload 5, 2) := by decide +kernel
theorem dL_mender_129 : decode cL_mender 129 = .ok (.iconst 3, 1) := by decide +kernel
theorem dL_mender_130 : decode cL_mender 130 = .ok (.iaload, 1) := by decide +kernel
theorem dL_mender_131 : decode cL_mender 131 = .ok (.aload 5, 2) := by decide +kernel
theorem dL_mender_133 : decode cL_mender 133 = .ok (.iconst 4, 1) := by decide +kernel
theorem dL_mender_134 : decode cL_mender 134 = .ok (.iaload, 1) := by decide +kernel
theorem dL_mender_135 : decode cL_mender 135 = .ok (.invokevirtual 96, 3) := by decide +kernel
theorem dL_mender_138 : decode cL_mender 138 = .ok (.istore 6, 2) := by decide +kernel
theorem dL_mender_140 : decode cL_mender 140 = .ok (.iinc 4 20, 3) := by decide +kernel
theorem dL_mender_143 : decode cL_mender 143 = .ok (.goto (-101), 3) := by decide +kernel
theorem dL_mender_146 : decode cL_mender 146 = .ok (.aload_n 1, 1) := by decide +kernel
theorem dL_mender_147 : decode cL_mender 147 = .ok (.aload_n 2, 1) := by decide +kernel
theorem dL_mender_148 : decode cL_mender 148 = .ok (.invokevirtual 89, 3) := by decide +kernel
theorem dL_mender_151 : decode cL_mender 151 = .ok (.invokevirtual 85, 3) := by decide +kernel
theorem dL_mender_154 : decode cL_mender 154 = .ok (.istore_n 3, 1) := by decide +kernel
theorem dL_mender_155 : decode cL_mender 155 = .ok (.aload_n 1, 1) := by decide +kernel
theorem dL_mender_156 : decode cL_mender 156 = .ok (.invokevirtual 100, 3) := by decide +kernel
theorem dL_mender_159 : decode cL_mender 159 = .ok (.istore 4, 2) := by decide +kernel
theorem dL_mender_161 : decode cL_mender 161 = .ok (.aload_n 1, 1) := by decide +kernel
theorem dL_mender_162 : decode cL_mender 162 = .ok (.areturn, 1) := by decide +kernel
theorem mn_one {l : Launch} (hl0 : l.flags = flags0) {N : Nat} {scr : Nat → Int32} {T : List Nat} {σ : zS} {S : zSt} {i k : Nat} (hi : i < 20) (hki : k + i < T.length) (hm : mnW S T σ) (hw : ∀ a, a < 5 → σ.1 48 a = nI (wwd (fun j => lb T (k + j)) i a)) {A B : Nat} : ∃ σ', mnW S T σ' ∧ (∀ a, a < 5 → σ'.1 48 a = nI (wwd (fun j => lb T (k + j)) (i + 1) a)) ∧ ∀ x, zHm l N scr x → zK x 11 59 [(6, .int (nI (i + 1))), (5, .ref 48), (4, .int (nI k)), (3, .int (nI 1)), (2, .ref 46), (1, .ref 0), (0, .ref 1041)] [] (zD ++ zEu) σ' A B → zK x 11 59 [(6, .int (nI i)), (5, .ref 48), (4, .int (nI k)), (3, .int (nI 1)), (2, .ref 46), (1, .ref 0), (0, .ref 1041)] [] (zD ++ zEu) σ A B := by
  have hT := hm.2
  have h1000 := hT.2.2.1
  refine ⟨zi σ 48 (i / 4) (nI (wwd (fun j => lb T (k + j)) i (i / 4) ||| (lb T (k + i) <<< (24 - 8 * (i % 4))))), mnW_hi hm (fun c hc => ⟨zi_o hc, rfl⟩) rfl, fun a ha => ?_, ?_⟩
  · rw [zupd]
    show _ = nI (if a = i / 4 then _ else _)
    by_cases h : a = i / 4
    · rw [if_pos h, h, pk_us]
    · rw [if_neg h, pk_un h]
      exact hw a ha
  rintro x ⟨hG, hxl, hns, hn0, hsc, hPx⟩ kk
  subst hxl
  refine z_iload (pc := 59) hG 0 rfl dL_mender_59 ?_
  refine z_bipush (pc := 61) (v := (20 : Int32)) hG (by decide) dL_mender_61 ?_
  refine z_icmp_ge (pc := 63) (tgt := 114) hG dL_mender_63 rfl (fun hbr => False.elim ((fun h => nI_nle2 (show i < 20 by omega) (by omega) h) hbr)) (fun _ => ?_)
  refine z_iload (pc := 66) hG 2 rfl dL_mender_66 ?_
  refine z_iload (pc := 68) hG 0 rfl dL_mender_68 ?_
  refine z_iadd (pc := 70) hG dL_mender_70 ?_
  rw [show ((nI k) + (nI i)) = (nI (k + i)) from nI_add k i]
  refine z_aload_n (pc := 71) hG 4 rfl rfl dL_mender_71 ?_
  refine z_virtS (pc := 72) (A' := A) (B' := B) (st2 := [.int ((nI T.length)), .int ((nI (k + i)))]) (v := some (.int ((nI T.length)))) hG [] [.int ((nI (k + i)))] zc_J0 zEu_46 (c_lenM hl0 zEu_M hT.1 hT.2.1) zy_J0_length_8abf5 ⟨w908, w909⟩ w1079 dL_mender_72 rfl (Nat.le_of_ble_eq_true rfl) (Nat.le_refl _) (zand rfl rfl) (zand rfl (zand zoU48 (zand rfl (zand rfl (zand zoU46 (zand zoU0 (zand (zoks_hi (by decide)) rfl))))))) rfl rfl (Nat.le_of_ble_eq_true rfl) rfl rfl ?_
  refine z_icmp_ge (pc := 75) (tgt := 114) hG dL_mender_75 rfl (fun hbr => False.elim ((fun h => nI_nle2 hki (by omega) h) hbr)) (fun _ => ?_)
  refine z_aload (pc := 78) hG 1 rfl dL_mender_78 ?_
  refine z_iload (pc := 80) hG 0 rfl dL_mender_80 ?_
  refine z_iconst (pc := 82) (v := (4 : Int32)) hG (by decide) dL_mender_82 ?_
  refine z_idiv (pc := 83) hG (by decide) dL_mender_83 ?_
  rw [show ((nI i) / (4 : Int32)) = (nI (i / 4)) from pk_div (by omega) (by decide) (by decide)]
  refine z_dup2 (pc := 84) hG rfl rfl dL_mender_84 ?_
  refine z_iald (pc := 85) hG zEu_48 (vp_in_nI (show i / 4 < 5 by omega) (by decide)) dL_mender_85 ?_
  rw [nI_clamp (show i / 4 < 2 ^ 31 by omega), hw (i / 4) (by omega)]
  refine z_aload_n (pc := 86) hG 4 rfl rfl dL_mender_86 ?_
  refine z_iload (pc := 87) hG 2 rfl dL_mender_87 ?_
  refine z_iload (pc := 89) hG 0 rfl dL_mender_89 ?_
  refine z_iadd (pc := 91) hG dL_mender_91 ?_
  rw [show ((nI k) + (nI i)) = (nI (k + i)) from nI_add k i]
  refine z_virtS (pc := 92) (A' := A) (B' := B) (st2 := [.int ((nI (lb T (k + i)))), .int ((nI (wwd (fun j => lb T (k + j)) i (i / 4)))), .int ((nI (i / 4))), .ref 48]) (v := some (.int ((nI (lb T (k + i)))))) hG [.int ((nI (k + i)))] [.int ((nI (wwd (fun j => lb T (k + j)) i (i / 4)))), .int ((nI (i / 4))), .ref 48] zc_J0 zEu_46 (c_chM hl0 zEu_f zEu_M hT hki) zy_J0_charAt_5068e ⟨w1081, w1082⟩ w1080 dL_mender_92 rfl (Nat.le_of_ble_eq_true rfl) (Nat.le_refl _) (zand rfl (zand rfl (zand zoU48 rfl))) (zand rfl (zand zoU48 (zand rfl (zand rfl (zand zoU46 (zand zoU0 (zand (zoks_hi (by decide)) rfl))))))) rfl rfl (Nat.le_of_ble_eq_true rfl) rfl rfl ?_
  refine z_bipush (pc := 95) (v := (24 : Int32)) hG (by decide) dL_mender_95 ?_
  refine z_bipush (pc := 97) (v := (8 : Int32)) hG (by decide) dL_mender_97 ?_
  refine z_iload (pc := 99) hG 0 rfl dL_mender_99 ?_
  refine z_iconst (pc := 101) (v := (4 : Int32)) hG (by decide) dL_mender_101 ?_
  refine z_irem (pc := 102) hG (by decide) dL_mender_102 ?_
  rw [show ((nI i) - (nI i) / (4 : Int32) * (4 : Int32)) = (nI (i % 4)) from pk_rem (by omega) (by decide) (by decide)]
  refine z_imul (pc := 103) hG dL_mender_103 ?_
  rw [show ((8 : Int32) * (nI (i % 4))) = (nI (8 * (i % 4))) from pk_mul 8 (i % 4)]
  refine z_isub (pc := 104) hG dL_mender_104 ?_
  rw [show ((24 : Int32) - (nI (8 * (i % 4)))) = (nI (24 - 8 * (i % 4))) from nI_sub (show 8 * (i % 4) ≤ 24 by omega)]
  refine z_ishl (pc := 105) hG dL_mender_105 ?_
  rw [show ((nI (lb T (k + i))) <<< ((nI (24 - 8 * (i % 4))) &&& 31)) = (nI (lb T (k + i) <<< (24 - 8 * (i % 4)))) from nI_shlg (by omega)]
  refine z_ior (pc := 106) hG dL_mender_106 ?_
  rw [show ((nI (wwd (fun j => lb T (k + j)) i (i / 4))) ||| (nI (lb T (k + i) <<< (24 - 8 * (i % 4))))) = (nI (wwd (fun j => lb T (k + j)) i (i / 4) ||| (lb T (k + i) <<< (24 - 8 * (i % 4))))) from nI_or _ _]
  refine z_iast (pc := 107) hG zEu_48 (vp_in_nI (show i / 4 < 5 by omega) (by decide)) dL_mender_107 ?_
  rw [nI_clamp (show i / 4 < 2 ^ 31 by omega)]
  refine z_iinc (pc := 108) (v := (nI (i + 1))) (ls' := [(6, .int ((nI (i + 1)))), (5, .ref 48), (4, .int ((nI k))), (3, .int ((nI 1))), (2, .ref 46), (1, .ref 0), (0, .ref 1041)]) hG 0 rfl [0, 1, 2, 3, 4, 5, 6] (nI_1s) (by decide) rfl dL_mender_108 ?_
  refine z_goto (pc := 111) (tgt := 59) hG dL_mender_111 rfl ?_
  exact kk
theorem mn_all {l : Launch} (hl0 : l.flags = flags0) {N : Nat} {scr : Nat → Int32} {T : List Nat} {S : zSt} {k m : Nat} (hm20 : m ≤ 20) (hkm : k + m ≤ T.length) (hend : m = 20 ∨ k + m = T.length) : ∀ (c i : Nat) (σ : zS), i + c = m → mnW S T σ → (∀ a, a < 5 → σ.1 48 a = nI (wwd (fun j => lb T (k + j)) i a)) → ∀ (A B : Nat), ∃ σ', mnW S T σ' ∧ (∀ a, a < 5 → σ'.1 48 a = nI (wwd (fun j => lb T (k + j)) m a)) ∧ ∀ x, zHm l N scr x → zK x 11 114 [(6, .int (nI m)), (5, .ref 48), (4, .int (nI k)), (3, .int (nI 1)), (2, .ref 46), (1, .ref 0), (0, .ref 1041)] [] (zD ++ zEu) σ' A B → zK x 11 59 [(6, .int (nI i)), (5, .ref 48), (4, .int (nI k)), (3, .int (nI 1)), (2, .ref 46), (1, .ref 0), (0, .ref 1041)] [] (zD ++ zEu) σ A B
  | 0, i, σ, hc, hm, hw, A, B => by
    obtain rfl : i = m := hc
    have hT := hm.2
    have h1000 := hT.2.2.1
    refine ⟨σ, hm, hw, ?_⟩
    rintro x ⟨hG, hxl, hns, hn0, hsc, hPx⟩ kk
    subst hxl
    by_cases h20 : i = 20
    · have hi20 : 20 ≤ i := by omega
      refine z_iload (pc := 59) hG 0 rfl dL_mender_59 ?_
      refine z_bipush (pc := 61) (v := (20 : Int32)) hG (by decide) dL_mender_61 ?_
      refine z_icmp_ge (pc := 63) (tgt := 114) hG dL_mender_63 rfl (fun _ => ?_) (fun hbr => False.elim (hbr (nI_le (show 20 ≤ i by omega) (by omega))))
      exact kk
    · have hi20 : i < 20 := by omega
      have hkT : k + i = T.length := by omega
      refine z_iload (pc := 59) hG 0 rfl dL_mender_59 ?_
      refine z_bipush (pc := 61) (v := (20 : Int32)) hG (by decide) dL_mender_61 ?_
      refine z_icmp_ge (pc := 63) (tgt := 114) hG dL_mender_63 rfl (fun hbr => False.elim ((fun h => nI_nle2 (show i < 20 by omega) (by omega) h) hbr)) (fun _ => ?_)
      refine z_iload (pc := 66) hG 2 rfl dL_mender_66 ?_
      refine z_iload (pc := 68) hG 0 rfl dL_mender_68 ?_
      refine z_iadd (pc := 70) hG dL_mender_70 ?_
      rw [show ((nI k) + (nI i)) = (nI (k + i)) from nI_add k i]
      refine z_aload_n (pc := 71) hG 4 rfl rfl dL_mender_71 ?_
      refine z_virtS (pc := 72) (A' := A) (B' := B) (st2 := [.int ((nI T.length)), .int ((nI (k + i)))]) (v := some (.int ((nI T.length)))) hG [] [.int ((nI (k + i)))] zc_J0 zEu_46 (c_lenM hl0 zEu_M hT.1 hT.2.1) zy_J0_length_8abf5 ⟨w908, w909⟩ w1079 dL_mender_72 rfl (Nat.le_of_ble_eq_true rfl) (Nat.le_refl _) (zand rfl rfl) (zand rfl (zand zoU48 (zand rfl (zand rfl (zand zoU46 (zand zoU0 (zand (zoks_hi (by decide)) rfl))))))) rfl rfl (Nat.le_of_ble_eq_true rfl) rfl rfl ?_
      refine z_icmp_ge (pc := 75) (tgt := 114) hG dL_mender_75 rfl (fun _ => ?_) (fun hbr => False.elim (hbr (nI_le (show T.length ≤ k + i by omega) (by omega))))
      exact kk
  | c + 1, i, σ, hc, hm, hw, A, B => by
    obtain ⟨σ1, hm1, hw1, k1⟩ := mn_one hl0 (N := N) (scr := scr) (show i < 20 by omega) (show k + i < T.length by omega) hm hw (A := A) (B := B)
    obtain ⟨σ2, hm2, hw2, k2⟩ := mn_all hl0 hm20 hkm hend c (i + 1) σ1 (by omega) hm1 hw1 A B
    exact ⟨σ2, hm2, hw2, fun x hx kk => k1 x hx (k2 x hx kk)⟩
theorem mn_block {l : Launch} (hl0 : l.flags = flags0) {N : Nat} {scr : Nat → Int32} {T : List Nat} {σ : zS} {S : zSt} {k : Nat} (hS : S = zSF k (lb T)) (hk : k < T.length) (hkT : k + 20 ≤ 400) (hm : mnW S T σ) {A B : Nat} : ∃ σ', mnW (zSF (k + 20) (lb T)) T σ' ∧ ∀ x, zHm l N scr x → zK x 11 42 [(4, .int (nI (k + 20))), (3, .int (nI 1)), (2, .ref 46), (1, .ref 0), (0, .ref 1041)] [] (zD ++ zEt) σ' A B → zK x 11 42 [(4, .int (nI k)), (3, .int (nI 1)), (2, .ref 46), (1, .ref 0), (0, .ref 1041)] [] (zD ++ zEt) σ (A + 1) (B + 5) := by
  subst hS
  have hT := hm.2
  have h1000 := hT.2.2.1
  have hm0 : mnW (zSF k (lb T)) T (zini σ 48 0) := mnW_hi hm zini_ag.1 rfl
  have hw0 : ∀ a, a < 5 → (zini σ 48 0).1 48 a = nI (wwd (fun j => lb T (k + j)) 0 a) := fun a _ => congrFun zini_s a
  obtain ⟨m, hm20, hkm, hend⟩ : ∃ m, m ≤ 20 ∧ k + m ≤ T.length ∧ (m = 20 ∨ k + m = T.length) := by
    by_cases h : k + 20 ≤ T.length
    · exact ⟨20, by omega, h, Or.inl rfl⟩
    · exact ⟨T.length - k, by omega, by omega, Or.inr (by omega)⟩
  obtain ⟨σ1, hm1, hw1, k1⟩ := mn_all hl0 (N := N) (scr := scr) hm20 hkm hend m 0 (zini σ 48 0) (by omega) hm0 hw0 A B
  have hcI := hm1.1
  have h11 : σ1.1 1 1 = nI k := hcI.2.2.2.1.1
  have hc256 : ∀ j, lb T j < 256 := fun j => by
    by_cases hj : j < T.length
    · exact (hT.2.2.2.1 j hj).1
    · unfold lb
      rw [List.getD_eq_getElem?_getD, List.getElem?_eq_none (by omega)]
      decide
  obtain ⟨h, hf, hpu⟩ := e_feed (A := fun a => nI (wwd (fun j => lb T (k + j)) m a)) (n := k) hkT h11
  have hC := zC_fr (σ := σ1) zEu_f (fun i hi => by cases hi) (tX10_feed hl0 _ _ _ _ _ σ1 hf)
  have hTp : cTp (k + 20) (lb T) h := by
    refine ⟨hpu.1, hkT, fun q hq => ?_⟩
    by_cases hqk : q < k
    · rw [hpu.2.1 q hqk]
      exact hcI.2.2.2.1.2.2 q hqk
    · have e1 := hpu.2.2.1 q (by omega) hq
      refine ⟨e1.trans (congrArg nI ?_), hc256 q⟩
      show fbA (fun a => nI (wwd (fun j => lb T (k + j)) m a)) (q - k) = lb T q
      rw [fb_wwB (fun j => hc256 (k + j)) (show q - k < 20 by omega)]
      by_cases hqm : q - k < m
      · rw [if_pos hqm, show k + (q - k) = q by omega]
      · rw [if_neg hqm]
        unfold lb
        rw [List.getD_eq_getElem?_getD, List.getElem?_eq_none (by omega)]
        rfl
  have hc2 : cI (zSF (k + 20) (lb T)) h := cI_pu hcI hpu.2.2.2 hTp
  have hinc : nI k + Int32.ofInt 20 = nI (k + 20) := by
    rw [show Int32.ofInt 20 = nI 20 from by decide]
    exact nI_add k 20
  refine ⟨zmix σ1 h, ⟨cI_mix hc2, zst_hi (fun c hc => zmix_hi hc) (by decide) (by decide) hm1.2⟩, ?_⟩
  rintro x hx kk
  obtain ⟨hG, hxl, hns, hn0, hsc, hPx⟩ := id hx
  subst hxl
  refine z_iload (pc := 42) hG 0 rfl dL_mender_42 ?_
  refine z_aload_n (pc := 44) hG 2 rfl rfl dL_mender_44 ?_
  refine z_virtS (pc := 45) (A' := A + 1) (B' := B + 5) (st2 := [.int ((nI T.length)), .int ((nI k))]) (v := some (.int ((nI T.length)))) hG [] [.int ((nI k))] zc_J0 zEt_46 (c_lenM hl0 zEt_M hT.1 hT.2.1) zy_J0_length_8abf5 ⟨w908, w909⟩ w1079 dL_mender_45 rfl (Nat.le_of_ble_eq_true rfl) (Nat.le_refl _) (zand rfl rfl) (zand rfl (zand rfl (zand zoT46 (zand zoT0 (zand (zoks_hi (by decide)) rfl))))) rfl rfl (Nat.le_of_ble_eq_true rfl) rfl rfl ?_
  refine z_icmp_ge (pc := 48) (tgt := 146) hG dL_mender_48 rfl (fun hbr => False.elim ((fun h => nI_nle2 hk (by omega) h) hbr)) (fun _ => ?_)
  refine z_iconst (pc := 51) (v := (5 : Int32)) hG (by decide) dL_mender_51 ?_
  refine z_ini 48 0 (by decide) ?_
  refine z_newa (pc := 52) (A' := A) (B' := B) (atype := .int) (t := 0) (N := 5) (z := (5, .inl (fun _ => 0))) hG wa_int rfl (fun _ => rfl) rfl (fun _ _ => Iff.rfl) (i := 48) rfl (by decide) (zbl_all (M := 48) (by decide +kernel) (by decide) (by decide)) (dsc := .inr (0, 5)) (fun ad ca => by show (Sum.inl (ca 0, 5, Sum.inl ((zini σ 48 0).1 48)) : va_E) = _; rw [zini_s]) (fun _ => rfl) (by decide) rfl (by decide) rfl rfl (dl' := zD ++ zEu) zEu_e rfl rfl dL_mender_52 ?_
  refine z_astore (pc := 54) (ls' := [(5, .ref 48), (4, .int ((nI k))), (3, .int ((nI 1))), (2, .ref 46), (1, .ref 0), (0, .ref 1041)]) hG [0, 1, 2, 3, 4, 5] (by decide) rfl dL_mender_54 ?_
  refine z_iconst (pc := 56) (v := (0 : Int32)) hG (by decide) dL_mender_56 ?_
  refine z_istore (pc := 57) (ls' := [(6, .int ((0 : Int32))), (5, .ref 48), (4, .int ((nI k))), (3, .int ((nI 1))), (2, .ref 46), (1, .ref 0), (0, .ref 1041)]) hG [0, 1, 2, 3, 4, 5, 6] (by decide) rfl dL_mender_57 ?_
  refine k1 x hx ?_
  refine z_aload_n (pc := 114) hG 5 rfl rfl dL_mender_114 ?_
  refine z_aload (pc := 115) hG 1 rfl dL_mender_115 ?_
  refine z_iconst (pc := 117) (v := (0 : Int32)) hG (by decide) dL_mender_117 ?_
  refine z_iald (pc := 118) hG zEu_48 (vp_in_nI (show 0 < 5 by decide) (by decide)) dL_mender_118 ?_
  rw [show σ1.1 48 (0 : Int32).toNatClampNeg = nI (wwd (fun j => lb T (k + j)) m 0) from hw1 0 (by decide)]
  refine z_aload (pc := 119) hG 1 rfl dL_mender_119 ?_
  refine z_iconst (pc := 121) (v := (1 : Int32)) hG (by decide) dL_mender_121 ?_
  refine z_iald (pc := 122) hG zEu_48 (vp_in_nI (show 1 < 5 by decide) (by decide)) dL_mender_122 ?_
  rw [show σ1.1 48 (1 : Int32).toNatClampNeg = nI (wwd (fun j => lb T (k + j)) m 1) from hw1 1 (by decide)]
  refine z_aload (pc := 123) hG 1 rfl dL_mender_123 ?_
  refine z_iconst (pc := 125) (v := (2 : Int32)) hG (by decide) dL_mender_125 ?_
  refine z_iald (pc := 126) hG zEu_48 (vp_in_nI (show 2 < 5 by decide) (by decide)) dL_mender_126 ?_
  rw [show σ1.1 48 (2 : Int32).toNatClampNeg = nI (wwd (fun j => lb T (k + j)) m 2) from hw1 2 (by decide)]
  refine z_aload (pc := 127) hG 1 rfl dL_mender_127 ?_
  refine z_iconst (pc := 129) (v := (3 : Int32)) hG (by decide) dL_mender_129 ?_
  refine z_iald (pc := 130) hG zEu_48 (vp_in_nI (show 3 < 5 by decide) (by decide)) dL_mender_130 ?_
  rw [show σ1.1 48 (3 : Int32).toNatClampNeg = nI (wwd (fun j => lb T (k + j)) m 3) from hw1 3 (by decide)]
  refine z_aload (pc := 131) hG 1 rfl dL_mender_131 ?_
  refine z_iconst (pc := 133) (v := (4 : Int32)) hG (by decide) dL_mender_133 ?_
  refine z_iald (pc := 134) hG zEu_48 (vp_in_nI (show 4 < 5 by decide) (by decide)) dL_mender_134 ?_
  rw [show σ1.1 48 (4 : Int32).toNatClampNeg = nI (wwd (fun j => lb T (k + j)) m 4) from hw1 4 (by decide)]
  refine z_virtS (pc := 135) (A' := A) (B' := B) (st2 := [.int ((nI (k + 20)))]) (v := some (.int ((nI (k + 20))))) hG [.int ((nI (wwd (fun j => lb T (k + j)) m 0))), .int ((nI (wwd (fun j => lb T (k + j)) m 1))), .int ((nI (wwd (fun j => lb T (k + j)) m 2))), .int ((nI (wwd (fun j => lb T (k + j)) m 3))), .int ((nI (wwd (fun j => lb T (k + j)) m 4)))] [] zc_X10 zEu_0 (hC) zy_X10_feed ⟨w1096, w1097⟩ w1095 dL_mender_135 rfl (Nat.le_of_ble_eq_true rfl) (Nat.le_refl _) rfl (zand rfl (zand zoU48 (zand rfl (zand rfl (zand zoU46 (zand zoU0 (zand (zoks_hi (by decide)) rfl))))))) rfl rfl (Nat.le_of_ble_eq_true rfl) rfl rfl ?_
  refine z_istore (pc := 138) (ls' := [(6, .int ((nI (k + 20)))), (5, .ref 48), (4, .int ((nI k))), (3, .int ((nI 1))), (2, .ref 46), (1, .ref 0), (0, .ref 1041)]) hG [0, 1, 2, 3, 4, 5, 6] (by decide) rfl dL_mender_138 ?_
  refine z_iinc (pc := 140) (v := (nI (k + 20))) (ls' := [(4, .int ((nI (k + 20)))), (6, .int ((nI (k + 20)))), (5, .ref 48), (3, .int ((nI 1))), (2, .ref 46), (1, .ref 0), (0, .ref 1041)]) hG 2 rfl [0, 1, 2, 3, 4, 5, 6] (hinc) (by decide) rfl dL_mender_140 ?_
  refine z_goto (pc := 143) (tgt := 42) hG dL_mender_143 rfl ?_
  refine z_sub [0, 3, 4, 5, 6] rfl ?_
  refine z_drop (dl := zD ++ zEt) (E := [.inr (0, 5)]) (by rw [hn0]; exact Nat.zero_le _) ?_
  exact kk
theorem mn_blocks {l : Launch} (hl0 : l.flags = flags0) {N : Nat} {scr : Nat → Int32} {T : List Nat} (hT4 : T.length ≤ 382) : ∀ (c k : Nat) (σ : zS), k % 20 = 0 → k ≤ T.length + 19 → T.length ≤ k + 20 * c → mnW (zSF k (lb T)) T σ → ∀ (A B : Nat), ∃ σ' k', T.length ≤ k' ∧ k' ≤ 401 ∧ mnW (zSF k' (lb T)) T σ' ∧ ∀ x, zHm l N scr x → zK x 11 42 [(4, .int (nI k')), (3, .int (nI 1)), (2, .ref 46), (1, .ref 0), (0, .ref 1041)] [] (zD ++ zEt) σ' A B → zK x 11 42 [(4, .int (nI k)), (3, .int (nI 1)), (2, .ref 46), (1, .ref 0), (0, .ref 1041)] [] (zD ++ zEt) σ (A + c) (B + 5 * c)
  | 0, k, σ, h20, hk2, hc, hm, A, B => ⟨σ, k, by omega, by omega, hm, fun x hx kk => kk⟩
  | c + 1, k, σ, h20, hk2, hc, hm, A, B => by
    by_cases hk : k < T.length
    · obtain ⟨σ1, hm1, k1⟩ := mn_block hl0 (N := N) (scr := scr) rfl hk (by omega) hm (A := A + c) (B := B + 5 * c)
      obtain ⟨σ2, k', a1, a2, a3, k2⟩ := mn_blocks hl0 hT4 c (k + 20) σ1 (by omega) (by omega) (by omega) hm1 A B
      exact ⟨σ2, k', a1, a2, a3, fun x hx kk => z_wk (by omega) (by omega) (k1 x hx (k2 x hx kk))⟩
    · exact ⟨σ, k, by omega, by omega, hm, fun x hx kk => z_wk (by omega) (by omega) kk⟩
