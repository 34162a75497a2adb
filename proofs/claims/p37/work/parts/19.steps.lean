
noncomputable def nX11_thrown (g : zS) : Option Int32 :=
  some ((g.1 42 0))

/-! ===== the steps of the law's loop ===== -/
/-- six ints of the script from i on -/
def zScr (x : zXx) (i : Int32) (a : Nat → Int32) : Prop := match x with
  | (p, l, e, R, s, m, args, below, meth, c, D, ca, b0, ad0, n0, tg) => ∃ (L : Nat) (xs : Nat → Int32), va_X (ad0 950) L xs s s.heap ∧ ad0 950 < s.heap.size ∧ ad0 950 < b0 ∧ ∀ j, j < 6 → vp_in (i + nI j) L ∧ xs (i + nI j).toNatClampNeg = a j
section ZSt
variable {x : zXx} {cc : ByteArray} {nL : Nat} {own : String} {ret : Option FieldType} {F pc : Nat} {ls : List (Nat × Value)} {st : List Value} {dl : List zDs} {σ : zS} {A B : Nat}
theorem z_scr {i v : Int32} {a : Nat → Int32} (hG : zG x cc nL own ret) (hS : zScr x i a) (j : Nat) (hj : j < 6) (hv : v = i + nI j) (hd : decode cc pc = .ok (.iaload, 1))
    (kk : zK x F (pc + 1) ls (.int (a j) :: st) dl σ A B) : zK x F pc ls (.int v :: .ref 950 :: st) dl σ A B := by
  obtain ⟨p, l, e, R, s, m, args, below, meth, c, D, ca, b0, ad0, n0, tg⟩ := x
  obtain ⟨hx, hb, hml, hown, hts, hret, hlk, htab, hKs, hOs, hfl⟩ := hG
  obtain ⟨L, xs, g1, g2, g3, g4⟩ := hS
  subst hv
  intro ad H locs la cells slots h1 h2 h3 h4 h5 h6 h7 h8 h9 h10
  have e9 : ad 950 = ad0 950 := h1.hi 950 (by decide)
  have k2 := kk ad H locs la cells slots h1 h2 h3 h4 h5 h6 h7 h8 h9 h10
  show W p l e R s m args below meth c H locs cells slots _ (F0 m pc la (.int (i + nI j) :: .ref (ad 950) :: st.map (zr ad)))
  rw [e9]
  refine va_sld hx hb g1 g2 (A := zA b0) (fun q => Nat.not_le.mpr g3 q) h5 (g4 j hj).1 hd ?_
  rw [(g4 j hj).2]
  exact k2
end ZSt
theorem z_i0 (i : Int32) : i = i + nI 0 := (Int32.add_zero i).symm
noncomputable def nS_0 (a : Nat → Int32) (g : zS) : Option zS :=
  (nX10_feed (a 1) (a 2) (a 3) (a 4) (a 5) g).bind fun v1 => zchk (decide (v1.2.2.2.2 = g.2.2.2)) ((nX11_feed (a 1) (a 2) (a 3) (a 4) (a 5) v1.2).bind fun v2 => zchk (decide (v2.2.2.2.2 = v1.2.2.2.2)) (if v1.1 = v2.1 then (some v2.2) else (none)))
noncomputable def nU_0 (a : Nat → Int32) (g : zS) : Option zS :=
  (nX10_feed (a 1) (a 2) (a 3) (a 4) (a 5) g).bind fun v1 => zchk (decide (v1.2.2.2.2 = g.2.2.2)) ((nX11_feed (a 1) (a 2) (a 3) (a 4) (a 5) v1.2).bind fun v2 => zchk (decide (v2.2.2.2.2 = v1.2.2.2.2)) (some v2.2))
set_option maxHeartbeats 1000000 in
theorem tS_0 {x : zXx} {i : Int32} {a : Nat → Int32} (hl0 : (zl0 x).flags = flags0) (hG : zG x cL_law 7 RL ret) (hPx : zPx x.2.2.2.2.1) (hS : zScr x i a) {A0 B0 C : Nat} (g : zS) {r : zS} (h : nU_0 a g = some r) (kf : zgr r C ∧ zK x 66 1939 [(0, .ref 950), (1, .ref 0), (2, .ref 42), (3, .ref 72), (4, .int i)] [] zD r (A0 + (C / 64 - r.2.2.2 / 64)) (B0 + 2 * (C - r.2.2.2))) : zgr g C ∧ zK x 66 252 [(0, .ref 950), (1, .ref 0), (2, .ref 42), (3, .ref 72), (4, .int i)] [] zD g (A0 + 0 + (C / 64 - g.2.2.2 / 64)) (B0 + 0 + 2 * (C - g.2.2.2)) := by
  unfold nU_0 at h
  refine And.imp_right (fun kk => z_aload_n (pc := 252) hG 1 rfl rfl dL_law_252 kk) ?_
  refine And.imp_right (fun kk => z_aload_n (pc := 253) hG 0 rfl rfl dL_law_253 kk) ?_
  refine And.imp_right (fun kk => z_iload (pc := 254) hG 4 rfl dL_law_254 kk) ?_
  refine And.imp_right (fun kk => z_iconst (pc := 256) hG kc_1 dL_law_256 kk) ?_
  refine And.imp_right (fun kk => z_iadd (pc := 257) hG dL_law_257 kk) ?_
  refine And.imp_right (fun kk => z_scr (pc := 258) hG hS 1 (by decide) rfl dL_law_258 kk) ?_
  refine And.imp_right (fun kk => z_aload_n (pc := 259) hG 0 rfl rfl dL_law_259 kk) ?_
  refine And.imp_right (fun kk => z_iload (pc := 260) hG 4 rfl dL_law_260 kk) ?_
  refine And.imp_right (fun kk => z_iconst (pc := 262) hG kc_2 dL_law_262 kk) ?_
  refine And.imp_right (fun kk => z_iadd (pc := 263) hG dL_law_263 kk) ?_
  refine And.imp_right (fun kk => z_scr (pc := 264) hG hS 2 (by decide) rfl dL_law_264 kk) ?_
  refine And.imp_right (fun kk => z_aload_n (pc := 265) hG 0 rfl rfl dL_law_265 kk) ?_
  refine And.imp_right (fun kk => z_iload (pc := 266) hG 4 rfl dL_law_266 kk) ?_
  refine And.imp_right (fun kk => z_iconst (pc := 268) hG kc_3 dL_law_268 kk) ?_
  refine And.imp_right (fun kk => z_iadd (pc := 269) hG dL_law_269 kk) ?_
  refine And.imp_right (fun kk => z_scr (pc := 270) hG hS 3 (by decide) rfl dL_law_270 kk) ?_
  refine And.imp_right (fun kk => z_aload_n (pc := 271) hG 0 rfl rfl dL_law_271 kk) ?_
  refine And.imp_right (fun kk => z_iload (pc := 272) hG 4 rfl dL_law_272 kk) ?_
  refine And.imp_right (fun kk => z_iconst (pc := 274) hG kc_4 dL_law_274 kk) ?_
  refine And.imp_right (fun kk => z_iadd (pc := 275) hG dL_law_275 kk) ?_
  refine And.imp_right (fun kk => z_scr (pc := 276) hG hS 4 (by decide) rfl dL_law_276 kk) ?_
  refine And.imp_right (fun kk => z_aload_n (pc := 277) hG 0 rfl rfl dL_law_277 kk) ?_
  refine And.imp_right (fun kk => z_iload (pc := 278) hG 4 rfl dL_law_278 kk) ?_
  refine And.imp_right (fun kk => z_iconst (pc := 280) hG kc_5 dL_law_280 kk) ?_
  refine And.imp_right (fun kk => z_iadd (pc := 281) hG dL_law_281 kk) ?_
  refine And.imp_right (fun kk => z_scr (pc := 282) hG hS 5 (by decide) rfl dL_law_282 kk) ?_
  replace h := zbind h
  obtain ⟨v1, hv1, h⟩ := h
  replace h := zchk_some h
  obtain ⟨hqv1, h⟩ := h
  refine And.imp_right (fun kk => z_cvI (A' := A0 + (C / 64 - g.2.2.2 / 64)) (B' := B0 + 2 * (C - g.2.2.2)) (nc := 0) (ns := 0) (rest := []) hG [.int (a 1), .int (a 2), .int (a 3), .int (a 4), .int (a 5)] zc_X10 DL_0 (tX10_feed hl0 (a 1) (a 2) (a 3) (a 4) (a 5) g hv1) zy_X10_feed ⟨w320, w321⟩ w319 dL_law_283 rfl (Nat.le_of_ble_eq_true rfl) (by omega) (by omega) rfl (Nat.le_of_ble_eq_true rfl) rfl kk) ?_
  refine zpc (of_decide_eq_true hqv1) ?_
  refine And.imp_right (fun kk => z_pop (pc := 286) hG rfl dL_law_286 kk) ?_
  refine And.imp_right (fun kk => z_aload_n (pc := 287) hG 2 rfl rfl dL_law_287 kk) ?_
  refine And.imp_right (fun kk => z_aload_n (pc := 288) hG 0 rfl rfl dL_law_288 kk) ?_
  refine And.imp_right (fun kk => z_iload (pc := 289) hG 4 rfl dL_law_289 kk) ?_
  refine And.imp_right (fun kk => z_iconst (pc := 291) hG kc_1 dL_law_291 kk) ?_
  refine And.imp_right (fun kk => z_iadd (pc := 292) hG dL_law_292 kk) ?_
  refine And.imp_right (fun kk => z_scr (pc := 293) hG hS 1 (by decide) rfl dL_law_293 kk) ?_
  refine And.imp_right (fun kk => z_aload_n (pc := 294) hG 0 rfl rfl dL_law_294 kk) ?_
  refine And.imp_right (fun kk => z_iload (pc := 295) hG 4 rfl dL_law_295 kk) ?_
  refine And.imp_right (fun kk => z_iconst (pc := 297) hG kc_2 dL_law_297 kk) ?_
  refine And.imp_right (fun kk => z_iadd (pc := 298) hG dL_law_298 kk) ?_
  refine And.imp_right (fun kk => z_scr (pc := 299) hG hS 2 (by decide) rfl dL_law_299 kk) ?_
  refine And.imp_right (fun kk => z_aload_n (pc := 300) hG 0 rfl rfl dL_law_300 kk) ?_
  refine And.imp_right (fun kk => z_iload (pc := 301) hG 4 rfl dL_law_301 kk) ?_
  refine And.imp_right (fun kk => z_iconst (pc := 303) hG kc_3 dL_law_303 kk) ?_
  refine And.imp_right (fun kk => z_iadd (pc := 304) hG dL_law_304 kk) ?_
  refine And.imp_right (fun kk => z_scr (pc := 305) hG hS 3 (by decide) rfl dL_law_305 kk) ?_
  refine And.imp_right (fun kk => z_aload_n (pc := 306) hG 0 rfl rfl dL_law_306 kk) ?_
  refine And.imp_right (fun kk => z_iload (pc := 307) hG 4 rfl dL_law_307 kk) ?_
  refine And.imp_right (fun kk => z_iconst (pc := 309) hG kc_4 dL_law_309 kk) ?_
  refine And.imp_right (fun kk => z_iadd (pc := 310) hG dL_law_310 kk) ?_
  refine And.imp_right (fun kk => z_scr (pc := 311) hG hS 4 (by decide) rfl dL_law_311 kk) ?_
  refine And.imp_right (fun kk => z_aload_n (pc := 312) hG 0 rfl rfl dL_law_312 kk) ?_
  refine And.imp_right (fun kk => z_iload (pc := 313) hG 4 rfl dL_law_313 kk) ?_
  refine And.imp_right (fun kk => z_iconst (pc := 315) hG kc_5 dL_law_315 kk) ?_
  refine And.imp_right (fun kk => z_iadd (pc := 316) hG dL_law_316 kk) ?_
  refine And.imp_right (fun kk => z_scr (pc := 317) hG hS 5 (by decide) rfl dL_law_317 kk) ?_
  replace h := zbind h
  obtain ⟨v2, hv2, h⟩ := h
  replace h := zchk_some h
  obtain ⟨hqv2, h⟩ := h
  refine And.imp_right (fun kk => z_cvI (A' := A0 + (C / 64 - v1.2.2.2.2 / 64)) (B' := B0 + 2 * (C - v1.2.2.2.2)) (nc := 0) (ns := 0) (rest := []) hG [.int (a 1), .int (a 2), .int (a 3), .int (a 4), .int (a 5)] zc_X11 DL_42 (tX11_feed hl0 (a 1) (a 2) (a 3) (a 4) (a 5) v1.2 hv2) zy_X11_feed ⟨w1595, w1596⟩ w1594 dL_law_318 rfl (Nat.le_of_ble_eq_true rfl) (by omega) (by omega) rfl (Nat.le_of_ble_eq_true rfl) rfl kk) ?_
  refine zpc (of_decide_eq_true hqv2) ?_
  refine And.imp_right (fun kk => z_pop (pc := 321) hG rfl dL_law_321 kk) ?_
  refine And.imp_right (fun kk => z_goto (pc := 322) (tgt := 1939) hG dL_law_322 rfl kk) ?_
  obtain rfl := Option.some.inj h
  exact kf
noncomputable def nS_1 (a : Nat → Int32) (g : zS) : Option zS :=
  (nX10_end (a 1) g).bind fun v1 => zchk (decide (v1.2.2.2.2 = g.2.2.2)) ((nX11_end (a 1) v1.2).bind fun v2 => zchk (decide (v2.2.2.2.2 = v1.2.2.2.2)) (if v1.1 = v2.1 then (some v2.2) else (none)))
noncomputable def nU_1 (a : Nat → Int32) (g : zS) : Option zS :=
  (nX10_end (a 1) g).bind fun v1 => zchk (decide (v1.2.2.2.2 = g.2.2.2)) ((nX11_end (a 1) v1.2).bind fun v2 => zchk (decide (v2.2.2.2.2 = v1.2.2.2.2)) (some v2.2))
set_option maxHeartbeats 1000000 in
theorem tS_1 {x : zXx} {i : Int32} {a : Nat → Int32} (hl0 : (zl0 x).flags = flags0) (hG : zG x cL_law 7 RL ret) (hPx : zPx x.2.2.2.2.1) (hS : zScr x i a) {A0 B0 C : Nat} (g : zS) {r : zS} (h : nU_1 a g = some r) (kf : zgr r C ∧ zK x 66 1939 [(0, .ref 950), (1, .ref 0), (2, .ref 42), (3, .ref 72), (4, .int i)] [] zD r (A0 + (C / 64 - r.2.2.2 / 64)) (B0 + 2 * (C - r.2.2.2))) : zgr g C ∧ zK x 66 325 [(0, .ref 950), (1, .ref 0), (2, .ref 42), (3, .ref 72), (4, .int i)] [] zD g (A0 + 0 + (C / 64 - g.2.2.2 / 64)) (B0 + 0 + 2 * (C - g.2.2.2)) := by
  unfold nU_1 at h
  refine And.imp_right (fun kk => z_aload_n (pc := 325) hG 1 rfl rfl dL_law_325 kk) ?_
  refine And.imp_right (fun kk => z_aload_n (pc := 326) hG 0 rfl rfl dL_law_326 kk) ?_
  refine And.imp_right (fun kk => z_iload (pc := 327) hG 4 rfl dL_law_327 kk) ?_
  refine And.imp_right (fun kk => z_iconst (pc := 329) hG kc_1 dL_law_329 kk) ?_
  refine And.imp_right (fun kk => z_iadd (pc := 330) hG dL_law_330 kk) ?_
  refine And.imp_right (fun kk => z_scr (pc := 331) hG hS 1 (by decide) rfl dL_law_331 kk) ?_
  replace h := zbind h
  obtain ⟨v1, hv1, h⟩ := h
  replace h := zchk_some h
  obtain ⟨hqv1, h⟩ := h
  refine And.imp_right (fun kk => z_cvI (A' := A0 + (C / 64 - g.2.2.2 / 64)) (B' := B0 + 2 * (C - g.2.2.2)) (nc := 0) (ns := 0) (rest := []) hG [.int (a 1)] zc_X10 DL_0 (tX10_end hl0 (a 1) g hv1) zy_X10_end ⟨w332, w333⟩ w331 dL_law_332 rfl (Nat.le_of_ble_eq_true rfl) (by omega) (by omega) rfl (Nat.le_of_ble_eq_true rfl) rfl kk) ?_
  refine zpc (of_decide_eq_true hqv1) ?_
  refine And.imp_right (fun kk => z_pop (pc := 335) hG rfl dL_law_335 kk) ?_
  refine And.imp_right (fun kk => z_aload_n (pc := 336) hG 2 rfl rfl dL_law_336 kk) ?_
  refine And.imp_right (fun kk => z_aload_n (pc := 337) hG 0 rfl rfl dL_law_337 kk) ?_
  refine And.imp_right (fun kk => z_iload (pc := 338) hG 4 rfl dL_law_338 kk) ?_
  refine And.imp_right (fun kk => z_iconst (pc := 340) hG kc_1 dL_law_340 kk) ?_
  refine And.imp_right (fun kk => z_iadd (pc := 341) hG dL_law_341 kk) ?_
  refine And.imp_right (fun kk => z_scr (pc := 342) hG hS 1 (by decide) rfl dL_law_342 kk) ?_
  replace h := zbind h
  obtain ⟨v2, hv2, h⟩ := h
  replace h := zchk_some h
  obtain ⟨hqv2, h⟩ := h
  refine And.imp_right (fun kk => z_cvI (A' := A0 + (C / 64 - v1.2.2.2.2 / 64)) (B' := B0 + 2 * (C - v1.2.2.2.2)) (nc := 0) (ns := 0) (rest := []) hG [.int (a 1)] zc_X11 DL_42 (tX11_end hl0 (a 1) v1.2 hv2) zy_X11_end ⟨w1599, w1600⟩ w1598 dL_law_343 rfl (Nat.le_of_ble_eq_true rfl) (by omega) (by omega) rfl (Nat.le_of_ble_eq_true rfl) rfl kk) ?_
  refine zpc (of_decide_eq_true hqv2) ?_
  refine And.imp_right (fun kk => z_pop (pc := 346) hG rfl dL_law_346 kk) ?_
  refine And.imp_right (fun kk => z_goto (pc := 347) (tgt := 1939) hG dL_law_347 rfl kk) ?_
  obtain rfl := Option.some.inj h
  exact kf
noncomputable def nS_2 (a : Nat → Int32) (g : zS) : Option zS :=
  (nL_read  g).bind fun v1 => zchk (decide (v1.2.2.2.2 = g.2.2.2)) ((nX11_read v1.2).bind fun v2 => zchk (decide (v2.2.2.2.2 = v1.2.2.2.2)) ((nX11_thrown v2.2).bind fun v3 => if v3 = v1.1 then (if v1.1 = 0 then (if (lg_cmp (v2.2.2.1 72 (0 : Int32).toNatClampNeg) v2.1.toInt64) = 0 then (some v2.2) else (none)) else (some v2.2)) else (none)))
noncomputable def nU_2 (a : Nat → Int32) (g : zS) : Option zS :=
  (nL_read  g).bind fun v1 => zchk (decide (v1.2.2.2.2 = g.2.2.2)) ((nX11_read v1.2).bind fun v2 => zchk (decide (v2.2.2.2.2 = v1.2.2.2.2)) (some v2.2))
set_option maxHeartbeats 1000000 in
theorem tS_2 {x : zXx} {i : Int32} {a : Nat → Int32} (hl0 : (zl0 x).flags = flags0) (hG : zG x cL_law 7 RL ret) (hPx : zPx x.2.2.2.2.1) (hS : zScr x i a) {A0 B0 C : Nat} (g : zS) {r : zS} (h : nU_2 a g = some r) (kf : zgr r C ∧ zK x 66 1939 [(0, .ref 950), (1, .ref 0), (2, .ref 42), (3, .ref 72), (4, .int i)] [] zD r (A0 + (C / 64 - r.2.2.2 / 64)) (B0 + 2 * (C - r.2.2.2))) : zgr g C ∧ zK x 66 350 [(0, .ref 950), (1, .ref 0), (2, .ref 42), (3, .ref 72), (4, .int i)] [] zD g (A0 + 1 + (C / 64 - g.2.2.2 / 64)) (B0 + 6 + 2 * (C - g.2.2.2)) := by
  unfold nU_2 at h
  refine And.imp_right (fun kk => z_aload_n (pc := 350) hG 1 rfl rfl dL_law_350 kk) ?_
  refine And.imp_right (fun kk => z_aload_n (pc := 351) hG 3 rfl rfl dL_law_351 kk) ?_
  replace h := zbind h
  obtain ⟨v1, hv1, h⟩ := h
  replace h := zchk_some h
  obtain ⟨hqv1, h⟩ := h
  refine And.imp_right (fun kk => z_csH (A' := A0 + (C / 64 - g.2.2.2 / 64)) (B' := B0 + 2 * (C - g.2.2.2)) (rest := []) hG hPx [.ref 0, .ref 72] (tL_read hl0  g hv1) zyH_read w553 w552 dL_law_352 rfl (Nat.le_of_ble_eq_true rfl) (by omega) (by omega) rfl (Nat.le_of_ble_eq_true rfl) rfl kk) ?_
  refine zpc (of_decide_eq_true hqv1) ?_
  refine And.imp_right (fun kk => z_istore (pc := 355) (ls' := [(5, .int v1.1), (0, .ref 950), (1, .ref 0), (2, .ref 42), (3, .ref 72), (4, .int i)]) hG [0, 1, 2, 3, 4, 5] (by decide) rfl dL_law_355 kk) ?_
  refine And.imp_right (fun kk => z_aload_n (pc := 357) hG 3 rfl rfl dL_law_357 kk) ?_
  replace h := zbind h
  obtain ⟨v2, hv2, h⟩ := h
  replace h := zchk_some h
  obtain ⟨hqv2, h⟩ := h
  refine And.imp_right (fun kk => z_cvI (A' := A0 + (C / 64 - v1.2.2.2.2 / 64)) (B' := B0 + 2 * (C - v1.2.2.2.2)) (nc := 0) (ns := 0) (rest := []) hG [] zc_X11 DL_42 (tX11_read hl0  v1.2 hv2) zy_X11_read ⟨w1603, w1604⟩ w1602 dL_law_358 rfl (Nat.le_of_ble_eq_true rfl) (by omega) (by omega) rfl (Nat.le_of_ble_eq_true rfl) rfl kk) ?_
  refine zpc (of_decide_eq_true hqv2) ?_
  refine And.imp_right (fun kk => z_istore (pc := 361) (ls' := [(6, .int v2.1), (5, .int v1.1), (0, .ref 950), (1, .ref 0), (2, .ref 42), (3, .ref 72), (4, .int i)]) hG [0, 1, 2, 3, 4, 5, 6] (by decide) rfl dL_law_361 kk) ?_
  refine And.imp_right (fun kk => z_goto (pc := 363) (tgt := 1939) hG dL_law_363 rfl kk) ?_
  obtain rfl := Option.some.inj h
  refine And.imp_right (fun kk => z_sub (ls' := [(0, .ref 950), (1, .ref 0), (2, .ref 42), (3, .ref 72), (4, .int i)]) [2, 3, 4, 5, 6] rfl kk) ?_
  exact kf
noncomputable def nS_3 (a : Nat → Int32) (g : zS) : Option zS :=
  (nX10_fault g).bind fun v1 => (nX11_fault g).bind fun v2 => zchk (decide (v2.2.2.2.2 = g.2.2.2)) (if v1 = v2.1 then (some v2.2) else (none))
noncomputable def nU_3 (a : Nat → Int32) (g : zS) : Option zS :=
  (nX10_fault g).bind fun v1 => (nX11_fault g).bind fun v2 => zchk (decide (v2.2.2.2.2 = g.2.2.2)) (some v2.2)
set_option maxHeartbeats 1000000 in
theorem tS_3 {x : zXx} {i : Int32} {a : Nat → Int32} (hl0 : (zl0 x).flags = flags0) (hG : zG x cL_law 7 RL ret) (hPx : zPx x.2.2.2.2.1) (hS : zScr x i a) {A0 B0 C : Nat} (g : zS) {r : zS} (h : nU_3 a g = some r) (kf : zgr r C ∧ zK x 66 1939 [(0, .ref 950), (1, .ref 0), (2, .ref 42), (3, .ref 72), (4, .int i)] [] zD r (A0 + (C / 64 - r.2.2.2 / 64)) (B0 + 2 * (C - r.2.2.2))) : zgr g C ∧ zK x 66 366 [(0, .ref 950), (1, .ref 0), (2, .ref 42), (3, .ref 72), (4, .int i)] [] zD g (A0 + 0 + (C / 64 - g.2.2.2 / 64)) (B0 + 0 + 2 * (C - g.2.2.2)) := by
  unfold nU_3 at h
  refine And.imp_right (fun kk => z_aload_n (pc := 366) hG 1 rfl rfl dL_law_366 kk) ?_
  replace h := zbind h
  obtain ⟨v1, hv1, h⟩ := h
  refine And.imp_right (fun kk => z_cvI (A' := A0 + (C / 64 - g.2.2.2 / 64)) (B' := B0 + 2 * (C - g.2.2.2)) (nc := 0) (ns := 0) (rest := []) hG [] zc_X10 DL_0 (tX10_fault hl0  g hv1) zy_X10_fault ⟨w336, w337⟩ w335 dL_law_367 rfl (Nat.le_of_ble_eq_true rfl) (by omega) (by omega) rfl (Nat.le_of_ble_eq_true rfl) rfl kk) ?_
  refine And.imp_right (fun kk => z_pop (pc := 370) hG rfl dL_law_370 kk) ?_
  refine And.imp_right (fun kk => z_aload_n (pc := 371) hG 2 rfl rfl dL_law_371 kk) ?_
  replace h := zbind h
  obtain ⟨v2, hv2, h⟩ := h
  replace h := zchk_some h
  obtain ⟨hqv2, h⟩ := h
  refine And.imp_right (fun kk => z_cvI (A' := A0 + (C / 64 - g.2.2.2 / 64)) (B' := B0 + 2 * (C - g.2.2.2)) (nc := 0) (ns := 0) (rest := []) hG [] zc_X11 DL_42 (tX11_fault hl0  g hv2) zy_X11_fault ⟨w1687, w1688⟩ w1686 dL_law_372 rfl (Nat.le_of_ble_eq_true rfl) (by omega) (by omega) rfl (Nat.le_of_ble_eq_true rfl) rfl kk) ?_
  refine zpc (of_decide_eq_true hqv2) ?_
  refine And.imp_right (fun kk => z_pop (pc := 375) hG rfl dL_law_375 kk) ?_
  refine And.imp_right (fun kk => z_goto (pc := 376) (tgt := 1939) hG dL_law_376 rfl kk) ?_
  obtain rfl := Option.some.inj h
  exact kf
noncomputable def nS_4 (a : Nat → Int32) (g : zS) : Option zS :=
  (nL_field (a 1) (a 2) g).bind fun v1 => zchk (decide (v1.2.2.2.2 = g.2.2.2)) ((nX11_field (a 1) (a 2) v1.2).bind fun v2 => zchk (decide (v2.2.2.2.2 = v1.2.2.2.2)) ((nX11_thrown v2.2).bind fun v3 => if v3 = v1.1 then (if v1.1 = 0 then (if (lg_cmp (v2.2.2.1 72 (0 : Int32).toNatClampNeg) v2.1.toInt64) = 0 then (some v2.2) else (none)) else (some v2.2)) else (none)))
noncomputable def nU_4 (a : Nat → Int32) (g : zS) : Option zS :=
  (nL_field (a 1) (a 2) g).bind fun v1 => zchk (decide (v1.2.2.2.2 = g.2.2.2)) ((nX11_field (a 1) (a 2) v1.2).bind fun v2 => zchk (decide (v2.2.2.2.2 = v1.2.2.2.2)) (some v2.2))
set_option maxHeartbeats 1000000 in
theorem tS_4 {x : zXx} {i : Int32} {a : Nat → Int32} (hl0 : (zl0 x).flags = flags0) (hG : zG x cL_law 7 RL ret) (hPx : zPx x.2.2.2.2.1) (hS : zScr x i a) {A0 B0 C : Nat} (g : zS) {r : zS} (h : nU_4 a g = some r) (kf : zgr r C ∧ zK x 66 1939 [(0, .ref 950), (1, .ref 0), (2, .ref 42), (3, .ref 72), (4, .int i)] [] zD r (A0 + (C / 64 - r.2.2.2 / 64)) (B0 + 2 * (C - r.2.2.2))) : zgr g C ∧ zK x 66 379 [(0, .ref 950), (1, .ref 0), (2, .ref 42), (3, .ref 72), (4, .int i)] [] zD g (A0 + 2 + (C / 64 - g.2.2.2 / 64)) (B0 + 12 + 2 * (C - g.2.2.2)) := by
  unfold nU_4 at h
  refine And.imp_right (fun kk => z_aload_n (pc := 379) hG 1 rfl rfl dL_law_379 kk) ?_
  refine And.imp_right (fun kk => z_aload_n (pc := 380) hG 0 rfl rfl dL_law_380 kk) ?_
  refine And.imp_right (fun kk => z_iload (pc := 381) hG 4 rfl dL_law_381 kk) ?_
  refine And.imp_right (fun kk => z_iconst (pc := 383) hG kc_1 dL_law_383 kk) ?_
  refine And.imp_right (fun kk => z_iadd (pc := 384) hG dL_law_384 kk) ?_
  refine And.imp_right (fun kk => z_scr (pc := 385) hG hS 1 (by decide) rfl dL_law_385 kk) ?_
  refine And.imp_right (fun kk => z_aload_n (pc := 386) hG 0 rfl rfl dL_law_386 kk) ?_
  refine And.imp_right (fun kk => z_iload (pc := 387) hG 4 rfl dL_law_387 kk) ?_
  refine And.imp_right (fun kk => z_iconst (pc := 389) hG kc_2 dL_law_389 kk) ?_
  refine And.imp_right (fun kk => z_iadd (pc := 390) hG dL_law_390 kk) ?_
  refine And.imp_right (fun kk => z_scr (pc := 391) hG hS 2 (by decide) rfl dL_law_391 kk) ?_
  refine And.imp_right (fun kk => z_aload_n (pc := 392) hG 3 rfl rfl dL_law_392 kk) ?_
  replace h := zbind h
  obtain ⟨v1, hv1, h⟩ := h
  replace h := zchk_some h
  obtain ⟨hqv1, h⟩ := h
  refine And.imp_right (fun kk => z_csH (A' := A0 + (C / 64 - g.2.2.2 / 64)) (B' := B0 + 2 * (C - g.2.2.2)) (rest := []) hG hPx [.ref 0, .int (a 1), .int (a 2), .ref 72] (tL_field hl0 (a 1) (a 2) g hv1) zyH_field w825 w824 dL_law_393 rfl (Nat.le_of_ble_eq_true rfl) (by omega) (by omega) rfl (Nat.le_of_ble_eq_true rfl) rfl kk) ?_
  refine zpc (of_decide_eq_true hqv1) ?_
  refine And.imp_right (fun kk => z_istore (pc := 396) (ls' := [(5, .int v1.1), (0, .ref 950), (1, .ref 0), (2, .ref 42), (3, .ref 72), (4, .int i)]) hG [0, 1, 2, 3, 4, 5] (by decide) rfl dL_law_396 kk) ?_
  refine And.imp_right (fun kk => z_aload_n (pc := 398) hG 3 rfl rfl dL_law_398 kk) ?_
  refine And.imp_right (fun kk => z_aload_n (pc := 399) hG 1 rfl rfl dL_law_399 kk) ?_
  refine And.imp_right (fun kk => z_iload (pc := 400) hG 5 rfl dL_law_400 kk) ?_
  refine And.imp_right (fun kk => z_iconst (pc := 402) hG kc_1 dL_law_402 kk) ?_
  refine And.imp_right (fun kk => z_iadd (pc := 403) hG dL_law_403 kk) ?_
  refine And.imp_right (fun kk => z_scr (pc := 404) hG hS 1 (by decide) rfl dL_law_404 kk) ?_
  refine And.imp_right (fun kk => z_aload_n (pc := 405) hG 1 rfl rfl dL_law_405 kk) ?_
  refine And.imp_right (fun kk => z_iload (pc := 406) hG 5 rfl dL_law_406 kk) ?_
  refine And.imp_right (fun kk => z_iconst (pc := 408) hG kc_2 dL_law_408 kk) ?_
  refine And.imp_right (fun kk => z_iadd (pc := 409) hG dL_law_409 kk) ?_
  refine And.imp_right (fun kk => z_scr (pc := 410) hG hS 2 (by decide) rfl dL_law_410 kk) ?_
  replace h := zbind h
  obtain ⟨v2, hv2, h⟩ := h
  replace h := zchk_some h
  obtain ⟨hqv2, h⟩ := h
  refine And.imp_right (fun kk => z_cvI (A' := A0 + (C / 64 - v1.2.2.2.2 / 64)) (B' := B0 + 2 * (C - v1.2.2.2.2)) (nc := 0) (ns := 0) (rest := []) hG [.int (a 1), .int (a 2)] zc_X11 DL_42 (tX11_field hl0 (a 1) (a 2) v1.2 hv2) zy_X11_field ⟨w1691, w1692⟩ w1690 dL_law_411 rfl (Nat.le_of_ble_eq_true rfl) (by omega) (by omega) rfl (Nat.le_of_ble_eq_true rfl) rfl kk) ?_
  refine zpc (of_decide_eq_true hqv2) ?_
  refine And.imp_right (fun kk => z_istore (pc := 414) (ls' := [(6, .int v2.1), (5, .int v1.1), (0, .ref 950), (1, .ref 0), (2, .ref 42), (3, .ref 72), (4, .int i)]) hG [0, 1, 2, 3, 4, 5, 6] (by decide) rfl dL_law_414 kk) ?_
  refine And.imp_right (fun kk => z_goto (pc := 416) (tgt := 1939) hG dL_law_416 rfl kk) ?_
  obtain rfl := Option.some.inj h
  refine And.imp_right (fun kk => z_sub (ls' := [(0, .ref 950), (1, .ref 0), (2, .ref 42), (3, .ref 72), (4, .int i)]) [2, 3, 4, 5, 6] rfl kk) ?_
  exact kf
noncomputable def nS_5 (a : Nat → Int32) (g : zS) : Option zS :=
  (nL_name (a 1) (a 2) g).bind fun v1 => zchk (decide (v1.2.2.2.2 = g.2.2.2)) ((nX11_name (a 1) (a 2) v1.2).bind fun v2 => zchk (decide (v2.2.2.2.2 = v1.2.2.2.2)) ((nX11_thrown v2.2).bind fun v3 => if v3 = v1.1 then (if v1.1 = 0 then (if (lg_cmp (v2.2.2.1 72 (0 : Int32).toNatClampNeg) v2.1.toInt64) = 0 then (some v2.2) else (none)) else (some v2.2)) else (none)))
noncomputable def nU_5 (a : Nat → Int32) (g : zS) : Option zS :=
  (nL_name (a 1) (a 2) g).bind fun v1 => zchk (decide (v1.2.2.2.2 = g.2.2.2)) ((nX11_name (a 1) (a 2) v1.2).bind fun v2 => zchk (decide (v2.2.2.2.2 = v1.2.2.2.2)) (some v2.2))
set_option maxHeartbeats 1000000 in
theorem tS_5 {x : zXx} {i : Int32} {a : Nat → Int32} (hl0 : (zl0 x).flags = flags0) (hG : zG x cL_law 7 RL ret) (hPx : zPx x.2.2.2.2.1) (hS : zScr x i a) {A0 B0 C : Nat} (g : zS) {r : zS} (h : nU_5 a g = some r) (kf : zgr r C ∧ zK x 66 1939 [(0, .ref 950), (1, .ref 0), (2, .ref 42), (3, .ref 72), (4, .int i)] [] zD r (A0 + (C / 64 - r.2.2.2 / 64)) (B0 + 2 * (C - r.2.2.2))) : zgr g C ∧ zK x 66 419 [(0, .ref 950), (1, .ref 0), (2, .ref 42), (3, .ref 72), (4, .int i)] [] zD g (A0 + 1 + (C / 64 - g.2.2.2 / 64)) (B0 + 6 + 2 * (C - g.2.2.2)) := by
  unfold nU_5 at h
  refine And.imp_right (fun kk => z_aload_n (pc := 419) hG 1 rfl rfl dL_law_419 kk) ?_
  refine And.imp_right (fun kk => z_aload_n (pc := 420) hG 0 rfl rfl dL_law_420 kk) ?_
  refine And.imp_right (fun kk => z_iload (pc := 421) hG 4 rfl dL_law_421 kk) ?_
  refine And.imp_right (fun kk => z_iconst (pc := 423) hG kc_1 dL_law_423 kk) ?_
  refine And.imp_right (fun kk => z_iadd (pc := 424) hG dL_law_424 kk) ?_
  refine And.imp_right (fun kk => z_scr (pc := 425) hG hS 1 (by decide) rfl dL_law_425 kk) ?_
  refine And.imp_right (fun kk => z_aload_n (pc := 426) hG 0 rfl rfl dL_law_426 kk) ?_
  refine And.imp_right (fun kk => z_iload (pc := 427) hG 4 rfl dL_law_427 kk) ?_
  refine And.imp_right (fun kk => z_iconst (pc := 429) hG kc_2 dL_law_429 kk) ?_
  refine And.imp_right (fun kk => z_iadd (pc := 430) hG dL_law_430 kk) ?_
  refine And.imp_right (fun kk => z_scr (pc := 431) hG hS 2 (by decide) rfl dL_law_431 kk) ?_
  refine And.imp_right (fun kk => z_aload_n (pc := 432) hG 3 rfl rfl dL_law_432 kk) ?_
  replace h := zbind h
  obtain ⟨v1, hv1, h⟩ := h
  replace h := zchk_some h
  obtain ⟨hqv1, h⟩ := h
  refine And.imp_right (fun kk => z_csH (A' := A0 + (C / 64 - g.2.2.2 / 64)) (B' := B0 + 2 * (C - g.2.2.2)) (rest := []) hG hPx [.ref 0, .int (a 1), .int (a 2), .ref 72] (tL_name hl0 (a 1) (a 2) g hv1) zyH_name w868 w867 dL_law_433 rfl (Nat.le_of_ble_eq_true rfl) (by omega) (by omega) rfl (Nat.le_of_ble_eq_true rfl) rfl kk) ?_
  refine zpc (of_decide_eq_true hqv1) ?_
  refine And.imp_right (fun kk => z_istore (pc := 436) (ls' := [(5, .int v1.1), (0, .ref 950), (1, .ref 0), (2, .ref 42), (3, .ref 72), (4, .int i)]) hG [0, 1, 2, 3, 4, 5] (by decide) rfl dL_law_436 kk) ?_
  refine And.imp_right (fun kk => z_aload_n (pc := 438) hG 3 rfl rfl dL_law_438 kk) ?_
  refine And.imp_right (fun kk => z_aload_n (pc := 439) hG 1 rfl rfl dL_law_439 kk) ?_
  refine And.imp_right (fun kk => z_iload (pc := 440) hG 5 rfl dL_law_440 kk) ?_
  refine And.imp_right (fun kk => z_iconst (pc := 442) hG kc_1 dL_law_442 kk) ?_
  refine And.imp_right (fun kk => z_iadd (pc := 443) hG dL_law_443 kk) ?_
  refine And.imp_right (fun kk => z_scr (pc := 444) hG hS 1 (by decide) rfl dL_law_444 kk) ?_
  refine And.imp_right (fun kk => z_aload_n (pc := 445) hG 1 rfl rfl dL_law_445 kk) ?_
  refine And.imp_right (fun kk => z_iload (pc := 446) hG 5 rfl dL_law_446 kk) ?_
  refine And.imp_right (fun kk => z_iconst (pc := 448) hG kc_2 dL_law_448 kk) ?_
  refine And.imp_right (fun kk => z_iadd (pc := 449) hG dL_law_449 kk) ?_
  refine And.imp_right (fun kk => z_scr (pc := 450) hG hS 2 (by decide) rfl dL_law_450 kk) ?_
  replace h := zbind h
  obtain ⟨v2, hv2, h⟩ := h
  replace h := zchk_some h
  obtain ⟨hqv2, h⟩ := h
  refine And.imp_right (fun kk => z_cvI (A' := A0 + (C / 64 - v1.2.2.2.2 / 64)) (B' := B0 + 2 * (C - v1.2.2.2.2)) (nc := 0) (ns := 0) (rest := []) hG [.int (a 1), .int (a 2)] zc_X11 DL_42 (tX11_name hl0 (a 1) (a 2) v1.2 hv2) zy_X11_name ⟨w1699, w1700⟩ w1698 dL_law_451 rfl (Nat.le_of_ble_eq_true rfl) (by omega) (by omega) rfl (Nat.le_of_ble_eq_true rfl) rfl kk) ?_
  refine zpc (of_decide_eq_true hqv2) ?_
  refine And.imp_right (fun kk => z_istore (pc := 454) (ls' := [(6, .int v2.1), (5, .int v1.1), (0, .ref 950), (1, .ref 0), (2, .ref 42), (3, .ref 72), (4, .int i)]) hG [0, 1, 2, 3, 4, 5, 6] (by decide) rfl dL_law_454 kk) ?_
  refine And.imp_right (fun kk => z_goto (pc := 456) (tgt := 1939) hG dL_law_456 rfl kk) ?_
  obtain rfl := Option.some.inj h
  refine And.imp_right (fun kk => z_sub (ls' := [(0, .ref 950), (1, .ref 0), (2, .ref 42), (3, .ref 72), (4, .int i)]) [2, 3, 4, 5, 6] rfl kk) ?_
  exact kf
noncomputable def nS_6 (a : Nat → Int32) (g : zS) : Option zS :=
  (nL_edit (a 1) (a 2) g).bind fun v1 => zchk (decide (v1.2.2.2.2 = g.2.2.2)) ((nX11_edit (a 1) (a 2) v1.2).bind fun v2 => zchk (decide (v2.2.2.2.2 = v1.2.2.2.2)) ((nX11_thrown v2.2).bind fun v3 => if v3 = v1.1 then (if v1.1 = 0 then (if (lg_cmp (v2.2.2.1 72 (0 : Int32).toNatClampNeg) v2.1.toInt64) = 0 then (some v2.2) else (none)) else (some v2.2)) else (none)))
noncomputable def nU_6 (a : Nat → Int32) (g : zS) : Option zS :=
  (nL_edit (a 1) (a 2) g).bind fun v1 => zchk (decide (v1.2.2.2.2 = g.2.2.2)) ((nX11_edit (a 1) (a 2) v1.2).bind fun v2 => zchk (decide (v2.2.2.2.2 = v1.2.2.2.2)) (some v2.2))
set_option maxHeartbeats 1000000 in
theorem tS_6 {x : zXx} {i : Int32} {a : Nat → Int32} (hl0 : (zl0 x).flags = flags0) (hG : zG x cL_law 7 RL ret) (hPx : zPx x.2.2.2.2.1) (hS : zScr x i a) {A0 B0 C : Nat} (g : zS) {r : zS} (h : nU_6 a g = some r) (kf : zgr r C ∧ zK x 66 1939 [(0, .ref 950), (1, .ref 0), (2, .ref 42), (3, .ref 72), (4, .int i)] [] zD r (A0 + (C / 64 - r.2.2.2 / 64)) (B0 + 2 * (C - r.2.2.2))) : zgr g C ∧ zK x 66 459 [(0, .ref 950), (1, .ref 0), (2, .ref 42), (3, .ref 72), (4, .int i)] [] zD g (A0 + 2 + (C / 64 - g.2.2.2 / 64)) (B0 + 12 + 2 * (C - g.2.2.2)) := by
  unfold nU_6 at h
  refine And.imp_right (fun kk => z_aload_n (pc := 459) hG 1 rfl rfl dL_law_459 kk) ?_
  refine And.imp_right (fun kk => z_aload_n (pc := 460) hG 0 rfl rfl dL_law_460 kk) ?_
  refine And.imp_right (fun kk => z_iload (pc := 461) hG 4 rfl dL_law_461 kk) ?_
  refine And.imp_right (fun kk => z_iconst (pc := 463) hG kc_1 dL_law_463 kk) ?_
  refine And.imp_right (fun kk => z_iadd (pc := 464) hG dL_law_464 kk) ?_
  refine And.imp_right (fun kk => z_scr (pc := 465) hG hS 1 (by decide) rfl dL_law_465 kk) ?_
  refine And.imp_right (fun kk => z_aload_n (pc := 466) hG 0 rfl rfl dL_law_466 kk) ?_
  refine And.imp_right (fun kk => z_iload (pc := 467) hG 4 rfl dL_law_467 kk) ?_
  refine And.imp_right (fun kk => z_iconst (pc := 469) hG kc_2 dL_law_469 kk) ?_
  refine And.imp_right (fun kk => z_iadd (pc := 470) hG dL_law_470 kk) ?_
  refine And.imp_right (fun kk => z_scr (pc := 471) hG hS 2 (by decide) rfl dL_law_471 kk) ?_
  refine And.imp_right (fun kk => z_aload_n (pc := 472) hG 3 rfl rfl dL_law_472 kk) ?_
  replace h := zbind h
  obtain ⟨v1, hv1, h⟩ := h
  replace h := zchk_some h
  obtain ⟨hqv1, h⟩ := h
  refine And.imp_right (fun kk => z_csH (A' := A0 + (C / 64 - g.2.2.2 / 64)) (B' := B0 + 2 * (C - g.2.2.2)) (rest := []) hG hPx [.ref 0, .int (a 1), .int (a 2), .ref 72] (tL_edit hl0 (a 1) (a 2) g hv1) zyH_edit w876 w875 dL_law_473 rfl (Nat.le_of_ble_eq_true rfl) (by omega) (by omega) rfl (Nat.le_of_ble_eq_true rfl) rfl kk) ?_
  refine zpc (of_decide_eq_true hqv1) ?_
  refine And.imp_right (fun kk => z_istore (pc := 476) (ls' := [(5, .int v1.1), (0, .ref 950), (1, .ref 0), (2, .ref 42), (3, .ref 72), (4, .int i)]) hG [0, 1, 2, 3, 4, 5] (by decide) rfl dL_law_476 kk) ?_
  refine And.imp_right (fun kk => z_aload_n (pc := 478) hG 3 rfl rfl dL_law_478 kk) ?_
  refine And.imp_right (fun kk => z_aload_n (pc := 479) hG 1 rfl rfl dL_law_479 kk) ?_
  refine And.imp_right (fun kk => z_iload (pc := 480) hG 5 rfl dL_law_480 kk) ?_
  refine And.imp_right (fun kk => z_iconst (pc := 482) hG kc_1 dL_law_482 kk) ?_
  refine And.imp_right (fun kk => z_iadd (pc := 483) hG dL_law_483 kk) ?_
  refine And.imp_right (fun kk => z_scr (pc := 484) hG hS 1 (by decide) rfl dL_law_484 kk) ?_
  refine And.imp_right (fun kk => z_aload_n (pc := 485) hG 1 rfl rfl dL_law_485 kk) ?_
  refine And.imp_right (fun kk => z_iload (pc := 486) hG 5 rfl dL_law_486 kk) ?_
  refine And.imp_right (fun kk => z_iconst (pc := 488) hG kc_2 dL_law_488 kk) ?_
  refine And.imp_right (fun kk => z_iadd (pc := 489) hG dL_law_489 kk) ?_
  refine And.imp_right (fun kk => z_scr (pc := 490) hG hS 2 (by decide) rfl dL_law_490 kk) ?_
  replace h := zbind h
  obtain ⟨v2, hv2, h⟩ := h
  replace h := zchk_some h
  obtain ⟨hqv2, h⟩ := h
  refine And.imp_right (fun kk => z_cvI (A' := A0 + (C / 64 - v1.2.2.2.2 / 64)) (B' := B0 + 2 * (C - v1.2.2.2.2)) (nc := 0) (ns := 0) (rest := []) hG [.int (a 1), .int (a 2)] zc_X11 DL_42 (tX11_edit hl0 (a 1) (a 2) v1.2 hv2) zy_X11_edit ⟨w1709, w1710⟩ w1708 dL_law_491 rfl (Nat.le_of_ble_eq_true rfl) (by omega) (by omega) rfl (Nat.le_of_ble_eq_true rfl) rfl kk) ?_
  refine zpc (of_decide_eq_true hqv2) ?_
  refine And.imp_right (fun kk => z_istore (pc := 494) (ls' := [(6, .int v2.1), (5, .int v1.1), (0, .ref 950), (1, .ref 0), (2, .ref 42), (3, .ref 72), (4, .int i)]) hG [0, 1, 2, 3, 4, 5, 6] (by decide) rfl dL_law_494 kk) ?_
  refine And.imp_right (fun kk => z_goto (pc := 496) (tgt := 1939) hG dL_law_496 rfl kk) ?_
  obtain rfl := Option.some.inj h
  refine And.imp_right (fun kk => z_sub (ls' := [(0, .ref 950), (1, .ref 0), (2, .ref 42), (3, .ref 72), (4, .int i)]) [2, 3, 4, 5, 6] rfl kk) ?_
  exact kf
noncomputable def nS_7 (a : Nat → Int32) (g : zS) : Option zS :=
  (nL_from (a 1) g).bind fun v1 => zchk (decide (g.2.2.2 ≤ v1.2.2.2.2)) ((nX11_from (a 1) v1.2).bind fun v2 => zchk (decide (v2.2.2.2.2 = v1.2.2.2.2)) ((nX11_thrown v2.2).bind fun v3 => if v3 = v1.1 then (if v1.1 = 0 then (if (lg_cmp (v2.2.2.1 72 (0 : Int32).toNatClampNeg) v2.1.toInt64) = 0 then (some v2.2) else (none)) else (some v2.2)) else (none)))
noncomputable def nU_7 (a : Nat → Int32) (g : zS) : Option zS :=
  (nL_from (a 1) g).bind fun v1 => zchk (decide (g.2.2.2 ≤ v1.2.2.2.2)) ((nX11_from (a 1) v1.2).bind fun v2 => zchk (decide (v2.2.2.2.2 = v1.2.2.2.2)) (some v2.2))
set_option maxHeartbeats 1000000 in
theorem tS_7 {x : zXx} {i : Int32} {a : Nat → Int32} (hl0 : (zl0 x).flags = flags0) (hG : zG x cL_law 7 RL ret) (hPx : zPx x.2.2.2.2.1) (hS : zScr x i a) {A0 B0 C : Nat} (g : zS) {r : zS} (h : nU_7 a g = some r) (kf : zgr r C ∧ zK x 66 1939 [(0, .ref 950), (1, .ref 0), (2, .ref 42), (3, .ref 72), (4, .int i)] [] zD r (A0 + (C / 64 - r.2.2.2 / 64)) (B0 + 2 * (C - r.2.2.2))) : zgr g C ∧ zK x 66 499 [(0, .ref 950), (1, .ref 0), (2, .ref 42), (3, .ref 72), (4, .int i)] [] zD g (A0 + 1 + (C / 64 - g.2.2.2 / 64)) (B0 + 6 + 2 * (C - g.2.2.2)) := by
  unfold nU_7 at h
  refine And.imp_right (fun kk => z_aload_n (pc := 499) hG 1 rfl rfl dL_law_499 kk) ?_
  refine And.imp_right (fun kk => z_aload_n (pc := 500) hG 0 rfl rfl dL_law_500 kk) ?_
  refine And.imp_right (fun kk => z_iload (pc := 501) hG 4 rfl dL_law_501 kk) ?_
  refine And.imp_right (fun kk => z_iconst (pc := 503) hG kc_1 dL_law_503 kk) ?_
  refine And.imp_right (fun kk => z_iadd (pc := 504) hG dL_law_504 kk) ?_
  refine And.imp_right (fun kk => z_scr (pc := 505) hG hS 1 (by decide) rfl dL_law_505 kk) ?_
  refine And.imp_right (fun kk => z_aload_n (pc := 506) hG 3 rfl rfl dL_law_506 kk) ?_
  replace h := zbind h
  obtain ⟨v1, hv1, h⟩ := h
  replace h := zchk_some h
  obtain ⟨hqv1, h⟩ := h
  replace hqv1 := of_decide_eq_true hqv1
  refine And.elim (fun hb kk => ⟨Nat.le_trans hqv1 hb, z_csH (A' := A0 + (C / 64 - v1.2.2.2.2 / 64)) (B' := B0 + 2 * (C - v1.2.2.2.2)) (rest := []) hG hPx [.ref 0, .int (a 1), .ref 72] (tL_from hl0 (a 1) g hv1) zyH_from w888 w887 dL_law_507 rfl (Nat.le_of_ble_eq_true rfl) (by have hb : v1.2.2.2.2 ≤ C := hb; omega) (by have hb : v1.2.2.2.2 ≤ C := hb; omega) rfl (Nat.le_of_ble_eq_true rfl) rfl kk⟩) ?_
  refine And.imp_right (fun kk => z_istore (pc := 510) (ls' := [(5, .int v1.1), (0, .ref 950), (1, .ref 0), (2, .ref 42), (3, .ref 72), (4, .int i)]) hG [0, 1, 2, 3, 4, 5] (by decide) rfl dL_law_510 kk) ?_
  refine And.imp_right (fun kk => z_aload_n (pc := 512) hG 3 rfl rfl dL_law_512 kk) ?_
  refine And.imp_right (fun kk => z_aload_n (pc := 513) hG 1 rfl rfl dL_law_513 kk) ?_
  refine And.imp_right (fun kk => z_iload (pc := 514) hG 5 rfl dL_law_514 kk) ?_
  refine And.imp_right (fun kk => z_iconst (pc := 516) hG kc_1 dL_law_516 kk) ?_
  refine And.imp_right (fun kk => z_iadd (pc := 517) hG dL_law_517 kk) ?_
  refine And.imp_right (fun kk => z_scr (pc := 518) hG hS 1 (by decide) rfl dL_law_518 kk) ?_
  replace h := zbind h
  obtain ⟨v2, hv2, h⟩ := h
  replace h := zchk_some h
  obtain ⟨hqv2, h⟩ := h
  refine And.imp_right (fun kk => z_cvI (A' := A0 + (C / 64 - v1.2.2.2.2 / 64)) (B' := B0 + 2 * (C - v1.2.2.2.2)) (nc := 0) (ns := 0) (rest := []) hG [.int (a 1)] zc_X11 DL_42 (tX11_from hl0 (a 1) v1.2 hv2) zy_X11_from ⟨w1717, w1718⟩ w1716 dL_law_519 rfl (Nat.le_of_ble_eq_true rfl) (by omega) (by omega) rfl (Nat.le_of_ble_eq_true rfl) rfl kk) ?_
  refine zpc (of_decide_eq_true hqv2) ?_
  refine And.imp_right (fun kk => z_istore (pc := 522) (ls' := [(6, .int v2.1), (5, .int v1.1), (0, .ref 950), (1, .ref 0), (2, .ref 42), (3, .ref 72), (4, .int i)]) hG [0, 1, 2, 3, 4, 5, 6] (by decide) rfl dL_law_522 kk) ?_
  refine And.imp_right (fun kk => z_goto (pc := 524) (tgt := 1939) hG dL_law_524 rfl kk) ?_
  obtain rfl := Option.some.inj h
  refine And.imp_right (fun kk => z_sub (ls' := [(0, .ref 950), (1, .ref 0), (2, .ref 42), (3, .ref 72), (4, .int i)]) [2, 3, 4, 5, 6] rfl kk) ?_
  exact kf
noncomputable def nS_8 (a : Nat → Int32) (g : zS) : Option zS :=
  if (a 2) = 0 then ((nL_cover (a 1) (0 : Int32) g).bind fun v1 => zchk (decide (g.2.2.2 ≤ v1.2.2.2.2)) (if (a 2) = 0 then ((nX11_cover (a 1) (0 : Int32) v1.2).bind fun v2 => zchk (decide (v2.2.2.2.2 = v1.2.2.2.2)) ((nX11_thrown v2.2).bind fun v3 => if v3 = v1.1 then (if v1.1 = 0 then (if (lg_cmp (v2.2.2.1 72 (0 : Int32).toNatClampNeg) v2.1.toInt64) = 0 then (some v2.2) else (none)) else (some v2.2)) else (none))) else ((nX11_cover (a 1) (1 : Int32) v1.2).bind fun v4 => zchk (decide (v4.2.2.2.2 = v1.2.2.2.2)) ((nX11_thrown v4.2).bind fun v5 => if v5 = v1.1 then (if v1.1 = 0 then (if (lg_cmp (v4.2.2.1 72 (0 : Int32).toNatClampNeg) v4.1.toInt64) = 0 then (some v4.2) else (none)) else (some v4.2)) else (none))))) else ((nL_cover (a 1) (1 : Int32) g).bind fun v6 => zchk (decide (g.2.2.2 ≤ v6.2.2.2.2)) (if (a 2) = 0 then ((nX11_cover (a 1) (0 : Int32) v6.2).bind fun v7 => zchk (decide (v7.2.2.2.2 = v6.2.2.2.2)) ((nX11_thrown v7.2).bind fun v8 => if v8 = v6.1 then (if v6.1 = 0 then (if (lg_cmp (v7.2.2.1 72 (0 : Int32).toNatClampNeg) v7.1.toInt64) = 0 then (some v7.2) else (none)) else (some v7.2)) else (none))) else ((nX11_cover (a 1) (1 : Int32) v6.2).bind fun v9 => zchk (decide (v9.2.2.2.2 = v6.2.2.2.2)) ((nX11_thrown v9.2).bind fun v10 => if v10 = v6.1 then (if v6.1 = 0 then (if (lg_cmp (v9.2.2.1 72 (0 : Int32).toNatClampNeg) v9.1.toInt64) = 0 then (some v9.2) else (none)) else (some v9.2)) else (none)))))
noncomputable def nU_8 (a : Nat → Int32) (g : zS) : Option zS :=
  if (a 2) = 0 then ((nL_cover (a 1) (0 : Int32) g).bind fun v1 => zchk (decide (g.2.2.2 ≤ v1.2.2.2.2)) (if (a 2) = 0 then ((nX11_cover (a 1) (0 : Int32) v1.2).bind fun v2 => zchk (decide (v2.2.2.2.2 = v1.2.2.2.2)) (some v2.2)) else ((nX11_cover (a 1) (1 : Int32) v1.2).bind fun v3 => zchk (decide (v3.2.2.2.2 = v1.2.2.2.2)) (some v3.2)))) else ((nL_cover (a 1) (1 : Int32) g).bind fun v4 => zchk (decide (g.2.2.2 ≤ v4.2.2.2.2)) (if (a 2) = 0 then ((nX11_cover (a 1) (0 : Int32) v4.2).bind fun v5 => zchk (decide (v5.2.2.2.2 = v4.2.2.2.2)) (some v5.2)) else ((nX11_cover (a 1) (1 : Int32) v4.2).bind fun v6 => zchk (decide (v6.2.2.2.2 = v4.2.2.2.2)) (some v6.2))))
set_option maxHeartbeats 1000000 in
theorem tS_8 {x : zXx} {i : Int32} {a : Nat → Int32} (hl0 : (zl0 x).flags = flags0) (hG : zG x cL_law 7 RL ret) (hPx : zPx x.2.2.2.2.1) (hS : zScr x i a) {A0 B0 C : Nat} (g : zS) {r : zS} (h : nU_8 a g = some r) (kf : zgr r C ∧ zK x 66 1939 [(0, .ref 950), (1, .ref 0), (2, .ref 42), (3, .ref 72), (4, .int i)] [] zD r (A0 + (C / 64 - r.2.2.2 / 64)) (B0 + 2 * (C - r.2.2.2))) : zgr g C ∧ zK x 66 527 [(0, .ref 950), (1, .ref 0), (2, .ref 42), (3, .ref 72), (4, .int i)] [] zD g (A0 + 1 + (C / 64 - g.2.2.2 / 64)) (B0 + 6 + 2 * (C - g.2.2.2)) := by
  unfold nU_8 at h
  refine And.imp_right (fun kk => z_aload_n (pc := 527) hG 1 rfl rfl dL_law_527 kk) ?_
  refine And.imp_right (fun kk => z_aload_n (pc := 528) hG 0 rfl rfl dL_law_528 kk) ?_
  refine And.imp_right (fun kk => z_iload (pc := 529) hG 4 rfl dL_law_529 kk) ?_
  refine And.imp_right (fun kk => z_iconst (pc := 531) hG kc_1 dL_law_531 kk) ?_
  refine And.imp_right (fun kk => z_iadd (pc := 532) hG dL_law_532 kk) ?_
  refine And.imp_right (fun kk => z_scr (pc := 533) hG hS 1 (by decide) rfl dL_law_533 kk) ?_
  refine And.imp_right (fun kk => z_aload_n (pc := 534) hG 0 rfl rfl dL_law_534 kk) ?_
  refine And.imp_right (fun kk => z_iload (pc := 535) hG 4 rfl dL_law_535 kk) ?_
  refine And.imp_right (fun kk => z_iconst (pc := 537) hG kc_2 dL_law_537 kk) ?_
  refine And.imp_right (fun kk => z_iadd (pc := 538) hG dL_law_538 kk) ?_
  refine And.imp_right (fun kk => z_scr (pc := 539) hG hS 2 (by decide) rfl dL_law_539 kk) ?_
  refine zbr (c := (a 2) = 0) (fun hc => ?_) (fun hc => ?_) (fun k1 k2 => z_if_eq (pc := 540) (tgt := 547) hG dL_law_540 rfl k1 k2)
  · replace h := zif_t hc h
    refine And.imp_right (fun kk => z_iconst (pc := 547) hG kc_0 dL_law_547 kk) ?_
    refine And.imp_right (fun kk => z_aload_n (pc := 548) hG 3 rfl rfl dL_law_548 kk) ?_
    replace h := zbind h
    obtain ⟨v1, hv1, h⟩ := h
    replace h := zchk_some h
    obtain ⟨hqv1, h⟩ := h
    replace hqv1 := of_decide_eq_true hqv1
    refine And.elim (fun hb kk => ⟨Nat.le_trans hqv1 hb, z_csH (A' := A0 + (C / 64 - v1.2.2.2.2 / 64)) (B' := B0 + 2 * (C - v1.2.2.2.2)) (rest := []) hG hPx [.ref 0, .int (a 1), .int (0 : Int32), .ref 72] (tL_cover hl0 (a 1) (0 : Int32) g hv1) zyH_cover w910 w909 dL_law_549 rfl (Nat.le_of_ble_eq_true rfl) (by have hb : v1.2.2.2.2 ≤ C := hb; omega) (by have hb : v1.2.2.2.2 ≤ C := hb; omega) rfl (Nat.le_of_ble_eq_true rfl) rfl kk⟩) ?_
    refine And.imp_right (fun kk => z_istore (pc := 552) (ls' := [(5, .int v1.1), (0, .ref 950), (1, .ref 0), (2, .ref 42), (3, .ref 72), (4, .int i)]) hG [0, 1, 2, 3, 4, 5] (by decide) rfl dL_law_552 kk) ?_
    refine And.imp_right (fun kk => z_aload_n (pc := 554) hG 3 rfl rfl dL_law_554 kk) ?_
    refine And.imp_right (fun kk => z_aload_n (pc := 555) hG 1 rfl rfl dL_law_555 kk) ?_
    refine And.imp_right (fun kk => z_iload (pc := 556) hG 5 rfl dL_law_556 kk) ?_
    refine And.imp_right (fun kk => z_iconst (pc := 558) hG kc_1 dL_law_558 kk) ?_
    refine And.imp_right (fun kk => z_iadd (pc := 559) hG dL_law_559 kk) ?_
    refine And.imp_right (fun kk => z_scr (pc := 560) hG hS 1 (by decide) rfl dL_law_560 kk) ?_
    refine And.imp_right (fun kk => z_aload_n (pc := 561) hG 1 rfl rfl dL_law_561 kk) ?_
    refine And.imp_right (fun kk => z_iload (pc := 562) hG 5 rfl dL_law_562 kk) ?_
    refine And.imp_right (fun kk => z_iconst (pc := 564) hG kc_2 dL_law_564 kk) ?_
    refine And.imp_right (fun kk => z_iadd (pc := 565) hG dL_law_565 kk) ?_
    refine And.imp_right (fun kk => z_scr (pc := 566) hG hS 2 (by decide) rfl dL_law_566 kk) ?_
    refine zbr (c := (a 2) = 0) (fun hc => ?_) (fun hc => ?_) (fun k1 k2 => z_if_eq (pc := 567) (tgt := 574) hG dL_law_567 rfl k1 k2)
    · replace h := zif_t hc h
      refine And.imp_right (fun kk => z_iconst (pc := 574) hG kc_0 dL_law_574 kk) ?_
      replace h := zbind h
      obtain ⟨v2, hv2, h⟩ := h
      replace h := zchk_some h
      obtain ⟨hqv2, h⟩ := h
      refine And.imp_right (fun kk => z_cvI (A' := A0 + (C / 64 - v1.2.2.2.2 / 64)) (B' := B0 + 2 * (C - v1.2.2.2.2)) (nc := 0) (ns := 0) (rest := []) hG [.int (a 1), .int (0 : Int32)] zc_X11 DL_42 (tX11_cover hl0 (a 1) (0 : Int32) v1.2 hv2) zy_X11_cover ⟨w1929, w1930⟩ w1928 dL_law_575 rfl (Nat.le_of_ble_eq_true rfl) (by omega) (by omega) rfl (Nat.le_of_ble_eq_true rfl) rfl kk) ?_
      refine zpc (of_decide_eq_true hqv2) ?_
      refine And.imp_right (fun kk => z_istore (pc := 578) (ls' := [(6, .int v2.1), (5, .int v1.1), (0, .ref 950), (1, .ref 0), (2, .ref 42), (3, .ref 72), (4, .int i)]) hG [0, 1, 2, 3, 4, 5, 6] (by decide) rfl dL_law_578 kk) ?_
      refine And.imp_right (fun kk => z_goto (pc := 580) (tgt := 1939) hG dL_law_580 rfl kk) ?_
      obtain rfl := Option.some.inj h
      refine And.imp_right (fun kk => z_sub (ls' := [(0, .ref 950), (1, .ref 0), (2, .ref 42), (3, .ref 72), (4, .int i)]) [2, 3, 4, 5, 6] rfl kk) ?_
      exact kf
    · replace h := zif_f hc h
      refine And.imp_right (fun kk => z_iconst (pc := 570) hG kc_1 dL_law_570 kk) ?_
      refine And.imp_right (fun kk => z_goto (pc := 571) (tgt := 575) hG dL_law_571 rfl kk) ?_
      replace h := zbind h
      obtain ⟨v3, hv3, h⟩ := h
      replace h := zchk_some h
      obtain ⟨hqv3, h⟩ := h
      refine And.imp_right (fun kk => z_cvI (A' := A0 + (C / 64 - v1.2.2.2.2 / 64)) (B' := B0 + 2 * (C - v1.2.2.2.2)) (nc := 0) (ns := 0) (rest := []) hG [.int (a 1), .int (1 : Int32)] zc_X11 DL_42 (tX11_cover hl0 (a 1) (1 : Int32) v1.2 hv3) zy_X11_cover ⟨w1929, w1930⟩ w1928 dL_law_575 rfl (Nat.le_of_ble_eq_true rfl) (by omega) (by omega) rfl (Nat.le_of_ble_eq_true rfl) rfl kk) ?_
      refine zpc (of_decide_eq_true hqv3) ?_
      refine And.imp_right (fun kk => z_istore (pc := 578) (ls' := [(6, .int v3.1), (5, .int v1.1), (0, .ref 950), (1, .ref 0), (2, .ref 42), (3, .ref 72), (4, .int i)]) hG [0, 1, 2, 3, 4, 5, 6] (by decide) rfl dL_law_578 kk) ?_
      refine And.imp_right (fun kk => z_goto (pc := 580) (tgt := 1939) hG dL_law_580 rfl kk) ?_
      obtain rfl := Option.some.inj h
      refine And.imp_right (fun kk => z_sub (ls' := [(0, .ref 950), (1, .ref 0), (2, .ref 42), (3, .ref 72), (4, .int i)]) [2, 3, 4, 5, 6] rfl kk) ?_
      exact kf
  · replace h := zif_f hc h
    refine And.imp_right (fun kk => z_iconst (pc := 543) hG kc_1 dL_law_543 kk) ?_
    refine And.imp_right (fun kk => z_goto (pc := 544) (tgt := 548) hG dL_law_544 rfl kk) ?_
    refine And.imp_right (fun kk => z_aload_n (pc := 548) hG 3 rfl rfl dL_law_548 kk) ?_
    replace h := zbind h
    obtain ⟨v4, hv4, h⟩ := h
    replace h := zchk_some h
    obtain ⟨hqv4, h⟩ := h
    replace hqv4 := of_decide_eq_true hqv4
    refine And.elim (fun hb kk => ⟨Nat.le_trans hqv4 hb, z_csH (A' := A0 + (C / 64 - v4.2.2.2.2 / 64)) (B' := B0 + 2 * (C - v4.2.2.2.2)) (rest := []) hG hPx [.ref 0, .int (a 1), .int (1 : Int32), .ref 72] (tL_cover hl0 (a 1) (1 : Int32) g hv4) zyH_cover w910 w909 dL_law_549 rfl (Nat.le_of_ble_eq_true rfl) (by have hb : v4.2.2.2.2 ≤ C := hb; omega) (by have hb : v4.2.2.2.2 ≤ C := hb; omega) rfl (Nat.le_of_ble_eq_true rfl) rfl kk⟩) ?_
    refine And.imp_right (fun kk => z_istore (pc := 552) (ls' := [(5, .int v4.1), (0, .ref 950), (1, .ref 0), (2, .ref 42), (3, .ref 72), (4, .int i)]) hG [0, 1, 2, 3, 4, 5] (by decide) rfl dL_law_552 kk) ?_
    refine And.imp_right (fun kk => z_aload_n (pc := 554) hG 3 rfl rfl dL_law_554 kk) ?_
    refine And.imp_right (fun kk => z_aload_n (pc := 555) hG 1 rfl rfl dL_law_555 kk) ?_
    refine And.imp_right (fun kk => z_iload (pc := 556) hG 5 rfl dL_law_556 kk) ?_
    refine And.imp_right (fun kk => z_iconst (pc := 558) hG kc_1 dL_law_558 kk) ?_
    refine And.imp_right (fun kk => z_iadd (pc := 559) hG dL_law_559 kk) ?_
    refine And.imp_right (fun kk => z_scr (pc := 560) hG hS 1 (by decide) rfl dL_law_560 kk) ?_
    refine And.imp_right (fun kk => z_aload_n (pc := 561) hG 1 rfl rfl dL_law_561 kk) ?_
    refine And.imp_right (fun kk => z_iload (pc := 562) hG 5 rfl dL_law_562 kk) ?_
    refine And.imp_right (fun kk => z_iconst (pc := 564) hG kc_2 dL_law_564 kk) ?_
    refine And.imp_right (fun kk => z_iadd (pc := 565) hG dL_law_565 kk) ?_
    refine And.imp_right (fun kk => z_scr (pc := 566) hG hS 2 (by decide) rfl dL_law_566 kk) ?_
    refine zbr (c := (a 2) = 0) (fun hc => ?_) (fun hc => ?_) (fun k1 k2 => z_if_eq (pc := 567) (tgt := 574) hG dL_law_567 rfl k1 k2)
    · replace h := zif_t hc h
      refine And.imp_right (fun kk => z_iconst (pc := 574) hG kc_0 dL_law_574 kk) ?_
      replace h := zbind h
      obtain ⟨v5, hv5, h⟩ := h
      replace h := zchk_some h
      obtain ⟨hqv5, h⟩ := h
      refine And.imp_right (fun kk => z_cvI (A' := A0 + (C / 64 - v4.2.2.2.2 / 64)) (B' := B0 + 2 * (C - v4.2.2.2.2)) (nc := 0) (ns := 0) (rest := []) hG [.int (a 1), .int (0 : Int32)] zc_X11 DL_42 (tX11_cover hl0 (a 1) (0 : Int32) v4.2 hv5) zy_X11_cover ⟨w1929, w1930⟩ w1928 dL_law_575 rfl (Nat.le_of_ble_eq_true rfl) (by omega) (by omega) rfl (Nat.le_of_ble_eq_true rfl) rfl kk) ?_
      refine zpc (of_decide_eq_true hqv5) ?_
      refine And.imp_right (fun kk => z_istore (pc := 578) (ls' := [(6, .int v5.1), (5, .int v4.1), (0, .ref 950), (1, .ref 0), (2, .ref 42), (3, .ref 72), (4, .int i)]) hG [0, 1, 2, 3, 4, 5, 6] (by decide) rfl dL_law_578 kk) ?_
      refine And.imp_right (fun kk => z_goto (pc := 580) (tgt := 1939) hG dL_law_580 rfl kk) ?_
      obtain rfl := Option.some.inj h
      refine And.imp_right (fun kk => z_sub (ls' := [(0, .ref 950), (1, .ref 0), (2, .ref 42), (3, .ref 72), (4, .int i)]) [2, 3, 4, 5, 6] rfl kk) ?_
      exact kf
    · replace h := zif_f hc h
      refine And.imp_right (fun kk => z_iconst (pc := 570) hG kc_1 dL_law_570 kk) ?_
      refine And.imp_right (fun kk => z_goto (pc := 571) (tgt := 575) hG dL_law_571 rfl kk) ?_
      replace h := zbind h
      obtain ⟨v6, hv6, h⟩ := h
      replace h := zchk_some h
      obtain ⟨hqv6, h⟩ := h
      refine And.imp_right (fun kk => z_cvI (A' := A0 + (C / 64 - v4.2.2.2.2 / 64)) (B' := B0 + 2 * (C - v4.2.2.2.2)) (nc := 0) (ns := 0) (rest := []) hG [.int (a 1), .int (1 : Int32)] zc_X11 DL_42 (tX11_cover hl0 (a 1) (1 : Int32) v4.2 hv6) zy_X11_cover ⟨w1929, w1930⟩ w1928 dL_law_575 rfl (Nat.le_of_ble_eq_true rfl) (by omega) (by omega) rfl (Nat.le_of_ble_eq_true rfl) rfl kk) ?_
      refine zpc (of_decide_eq_true hqv6) ?_
      refine And.imp_right (fun kk => z_istore (pc := 578) (ls' := [(6, .int v6.1), (5, .int v4.1), (0, .ref 950), (1, .ref 0), (2, .ref 42), (3, .ref 72), (4, .int i)]) hG [0, 1, 2, 3, 4, 5, 6] (by decide) rfl dL_law_578 kk) ?_
      refine And.imp_right (fun kk => z_goto (pc := 580) (tgt := 1939) hG dL_law_580 rfl kk) ?_
      obtain rfl := Option.some.inj h
      refine And.imp_right (fun kk => z_sub (ls' := [(0, .ref 950), (1, .ref 0), (2, .ref 42), (3, .ref 72), (4, .int i)]) [2, 3, 4, 5, 6] rfl kk) ?_
      exact kf
noncomputable def nS_9 (a : Nat → Int32) (g : zS) : Option zS :=
  (nL_idle (a 1) g).bind fun v1 => zchk (decide (v1.2.2.2.2 = g.2.2.2)) ((nX11_idle (a 1) v1.2).bind fun v2 => zchk (decide (v2.2.2.2.2 = v1.2.2.2.2)) ((nX11_thrown v2.2).bind fun v3 => if v3 = v1.1 then (if v1.1 = 0 then (if v2.1 = 0 then (if (lg_cmp (v2.2.2.1 72 (0 : Int32).toNatClampNeg) (0 : Int64)) = 0 then (some v2.2) else (none)) else (if (lg_cmp (v2.2.2.1 72 (0 : Int32).toNatClampNeg) (1 : Int64)) = 0 then (some v2.2) else (none))) else (some v2.2)) else (none)))
noncomputable def nU_9 (a : Nat → Int32) (g : zS) : Option zS :=
  (nL_idle (a 1) g).bind fun v1 => zchk (decide (v1.2.2.2.2 = g.2.2.2)) ((nX11_idle (a 1) v1.2).bind fun v2 => zchk (decide (v2.2.2.2.2 = v1.2.2.2.2)) (some v2.2))
set_option maxHeartbeats 1000000 in
theorem tS_9 {x : zXx} {i : Int32} {a : Nat → Int32} (hl0 : (zl0 x).flags = flags0) (hG : zG x cL_law 7 RL ret) (hPx : zPx x.2.2.2.2.1) (hS : zScr x i a) {A0 B0 C : Nat} (g : zS) {r : zS} (h : nU_9 a g = some r) (kf : zgr r C ∧ zK x 66 1939 [(0, .ref 950), (1, .ref 0), (2, .ref 42), (3, .ref 72), (4, .int i)] [] zD r (A0 + (C / 64 - r.2.2.2 / 64)) (B0 + 2 * (C - r.2.2.2))) : zgr g C ∧ zK x 66 583 [(0, .ref 950), (1, .ref 0), (2, .ref 42), (3, .ref 72), (4, .int i)] [] zD g (A0 + 1 + (C / 64 - g.2.2.2 / 64)) (B0 + 6 + 2 * (C - g.2.2.2)) := by
  unfold nU_9 at h
  refine And.imp_right (fun kk => z_aload_n (pc := 583) hG 1 rfl rfl dL_law_583 kk) ?_
  refine And.imp_right (fun kk => z_aload_n (pc := 584) hG 0 rfl rfl dL_law_584 kk) ?_
  refine And.imp_right (fun kk => z_iload (pc := 585) hG 4 rfl dL_law_585 kk) ?_
  refine And.imp_right (fun kk => z_iconst (pc := 587) hG kc_1 dL_law_587 kk) ?_
  refine And.imp_right (fun kk => z_iadd (pc := 588) hG dL_law_588 kk) ?_
  refine And.imp_right (fun kk => z_scr (pc := 589) hG hS 1 (by decide) rfl dL_law_589 kk) ?_
  refine And.imp_right (fun kk => z_aload_n (pc := 590) hG 3 rfl rfl dL_law_590 kk) ?_
  replace h := zbind h
  obtain ⟨v1, hv1, h⟩ := h
  replace h := zchk_some h
  obtain ⟨hqv1, h⟩ := h
  refine And.imp_right (fun kk => z_csH (A' := A0 + (C / 64 - g.2.2.2 / 64)) (B' := B0 + 2 * (C - g.2.2.2)) (rest := []) hG hPx [.ref 0, .int (a 1), .ref 72] (tL_idle hl0 (a 1) g hv1) zyH_idle w940 w939 dL_law_591 rfl (Nat.le_of_ble_eq_true rfl) (by omega) (by omega) rfl (Nat.le_of_ble_eq_true rfl) rfl kk) ?_
  refine zpc (of_decide_eq_true hqv1) ?_
  refine And.imp_right (fun kk => z_istore (pc := 594) (ls' := [(5, .int v1.1), (0, .ref 950), (1, .ref 0), (2, .ref 42), (3, .ref 72), (4, .int i)]) hG [0, 1, 2, 3, 4, 5] (by decide) rfl dL_law_594 kk) ?_
  refine And.imp_right (fun kk => z_aload_n (pc := 596) hG 3 rfl rfl dL_law_596 kk) ?_
  refine And.imp_right (fun kk => z_aload_n (pc := 597) hG 1 rfl rfl dL_law_597 kk) ?_
  refine And.imp_right (fun kk => z_iload (pc := 598) hG 5 rfl dL_law_598 kk) ?_
  refine And.imp_right (fun kk => z_iconst (pc := 600) hG kc_1 dL_law_600 kk) ?_
  refine And.imp_right (fun kk => z_iadd (pc := 601) hG dL_law_601 kk) ?_
  refine And.imp_right (fun kk => z_scr (pc := 602) hG hS 1 (by decide) rfl dL_law_602 kk) ?_
  replace h := zbind h
  obtain ⟨v2, hv2, h⟩ := h
  replace h := zchk_some h
  obtain ⟨hqv2, h⟩ := h
  refine And.imp_right (fun kk => z_cvI (A' := A0 + (C / 64 - v1.2.2.2.2 / 64)) (B' := B0 + 2 * (C - v1.2.2.2.2)) (nc := 0) (ns := 0) (rest := []) hG [.int (a 1)] zc_X11 DL_42 (tX11_idle hl0 (a 1) v1.2 hv2) zy_X11_idle ⟨w1764, w1765⟩ w1763 dL_law_603 rfl (Nat.le_of_ble_eq_true rfl) (by omega) (by omega) rfl (Nat.le_of_ble_eq_true rfl) rfl kk) ?_
  refine zpc (of_decide_eq_true hqv2) ?_
  refine And.imp_right (fun kk => z_istore (pc := 606) (ls' := [(6, .int v2.1), (5, .int v1.1), (0, .ref 950), (1, .ref 0), (2, .ref 42), (3, .ref 72), (4, .int i)]) hG [0, 1, 2, 3, 4, 5, 6] (by decide) rfl dL_law_606 kk) ?_
  refine And.imp_right (fun kk => z_goto (pc := 608) (tgt := 1939) hG dL_law_608 rfl kk) ?_
  obtain rfl := Option.some.inj h
  refine And.imp_right (fun kk => z_sub (ls' := [(0, .ref 950), (1, .ref 0), (2, .ref 42), (3, .ref 72), (4, .int i)]) [2, 3, 4, 5, 6] rfl kk) ?_
  exact kf
noncomputable def nS_10 (a : Nat → Int32) (g : zS) : Option zS :=
  (nX10_boxes g).bind fun v1 => zchk (decide (g.2.2.2 ≤ v1.2.2.2.2)) ((nX11_boxes v1.2).bind fun v2 => zchk (decide (v2.2.2.2.2 = v1.2.2.2.2)) (if v1.1 = v2.1 then (some v2.2) else (none)))
noncomputable def nU_10 (a : Nat → Int32) (g : zS) : Option zS :=
  (nX10_boxes g).bind fun v1 => zchk (decide (g.2.2.2 ≤ v1.2.2.2.2)) ((nX11_boxes v1.2).bind fun v2 => zchk (decide (v2.2.2.2.2 = v1.2.2.2.2)) (some v2.2))
set_option maxHeartbeats 1000000 in
theorem tS_10 {x : zXx} {i : Int32} {a : Nat → Int32} (hl0 : (zl0 x).flags = flags0) (hG : zG x cL_law 7 RL ret) (hPx : zPx x.2.2.2.2.1) (hS : zScr x i a) {A0 B0 C : Nat} (g : zS) {r : zS} (h : nU_10 a g = some r) (kf : zgr r C ∧ zK x 66 1939 [(0, .ref 950), (1, .ref 0), (2, .ref 42), (3, .ref 72), (4, .int i)] [] zD r (A0 + (C / 64 - r.2.2.2 / 64)) (B0 + 2 * (C - r.2.2.2))) : zgr g C ∧ zK x 66 611 [(0, .ref 950), (1, .ref 0), (2, .ref 42), (3, .ref 72), (4, .int i)] [] zD g (A0 + 0 + (C / 64 - g.2.2.2 / 64)) (B0 + 0 + 2 * (C - g.2.2.2)) := by
  unfold nU_10 at h
  refine And.imp_right (fun kk => z_aload_n (pc := 611) hG 1 rfl rfl dL_law_611 kk) ?_
  replace h := zbind h
  obtain ⟨v1, hv1, h⟩ := h
  replace h := zchk_some h
  obtain ⟨hqv1, h⟩ := h
  replace hqv1 := of_decide_eq_true hqv1
  refine And.elim (fun hb kk => ⟨Nat.le_trans hqv1 hb, z_cvI (A' := A0 + (C / 64 - v1.2.2.2.2 / 64)) (B' := B0 + 2 * (C - v1.2.2.2.2)) (nc := 0 + (v1.2.2.2.2 / 64 - g.2.2.2 / 64)) (ns := 0 + 2 * (v1.2.2.2.2 - g.2.2.2)) (rest := []) hG [] zc_X10 DL_0 (tX10_boxes hl0  g hv1) zy_X10_boxes ⟨w340, w341⟩ w339 dL_law_612 rfl (Nat.le_of_ble_eq_true rfl) (by have hb : v1.2.2.2.2 ≤ C := hb; omega) (by have hb : v1.2.2.2.2 ≤ C := hb; omega) rfl (Nat.le_of_ble_eq_true rfl) rfl kk⟩) ?_
  refine And.imp_right (fun kk => z_pop (pc := 615) hG rfl dL_law_615 kk) ?_
  refine And.imp_right (fun kk => z_aload_n (pc := 616) hG 2 rfl rfl dL_law_616 kk) ?_
  replace h := zbind h
  obtain ⟨v2, hv2, h⟩ := h
  replace h := zchk_some h
  obtain ⟨hqv2, h⟩ := h
  refine And.imp_right (fun kk => z_cvI (A' := A0 + (C / 64 - v1.2.2.2.2 / 64)) (B' := B0 + 2 * (C - v1.2.2.2.2)) (nc := 0) (ns := 0) (rest := []) hG [] zc_X11 DL_42 (tX11_boxes hl0  v1.2 hv2) zy_X11_boxes ⟨w1768, w1769⟩ w1767 dL_law_617 rfl (Nat.le_of_ble_eq_true rfl) (by omega) (by omega) rfl (Nat.le_of_ble_eq_true rfl) rfl kk) ?_
  refine zpc (of_decide_eq_true hqv2) ?_
  refine And.imp_right (fun kk => z_pop (pc := 620) hG rfl dL_law_620 kk) ?_
  refine And.imp_right (fun kk => z_goto (pc := 621) (tgt := 1939) hG dL_law_621 rfl kk) ?_
  obtain rfl := Option.some.inj h
  exact kf
noncomputable def nS_11 (a : Nat → Int32) (g : zS) : Option zS :=
  (nL_box (a 1) (a 2) g).bind fun v1 => zchk (decide (g.2.2.2 ≤ v1.2.2.2.2)) ((nX11_box (a 1) (a 2) v1.2).bind fun v2 => zchk (decide (v2.2.2.2.2 = v1.2.2.2.2)) ((nX11_thrown v2.2).bind fun v3 => if v3 = v1.1 then (if v1.1 = 0 then (if (lg_cmp (v2.2.2.1 72 (0 : Int32).toNatClampNeg) v2.1.toInt64) = 0 then (some v2.2) else (none)) else (some v2.2)) else (none)))
noncomputable def nU_11 (a : Nat → Int32) (g : zS) : Option zS :=
  (nL_box (a 1) (a 2) g).bind fun v1 => zchk (decide (g.2.2.2 ≤ v1.2.2.2.2)) ((nX11_box (a 1) (a 2) v1.2).bind fun v2 => zchk (decide (v2.2.2.2.2 = v1.2.2.2.2)) (some v2.2))
set_option maxHeartbeats 1000000 in
theorem tS_11 {x : zXx} {i : Int32} {a : Nat → Int32} (hl0 : (zl0 x).flags = flags0) (hG : zG x cL_law 7 RL ret) (hPx : zPx x.2.2.2.2.1) (hS : zScr x i a) {A0 B0 C : Nat} (g : zS) {r : zS} (h : nU_11 a g = some r) (kf : zgr r C ∧ zK x 66 1939 [(0, .ref 950), (1, .ref 0), (2, .ref 42), (3, .ref 72), (4, .int i)] [] zD r (A0 + (C / 64 - r.2.2.2 / 64)) (B0 + 2 * (C - r.2.2.2))) : zgr g C ∧ zK x 66 624 [(0, .ref 950), (1, .ref 0), (2, .ref 42), (3, .ref 72), (4, .int i)] [] zD g (A0 + 2 + (C / 64 - g.2.2.2 / 64)) (B0 + 12 + 2 * (C - g.2.2.2)) := by
  unfold nU_11 at h
  refine And.imp_right (fun kk => z_aload_n (pc := 624) hG 1 rfl rfl dL_law_624 kk) ?_
  refine And.imp_right (fun kk => z_aload_n (pc := 625) hG 0 rfl rfl dL_law_625 kk) ?_
  refine And.imp_right (fun kk => z_iload (pc := 626) hG 4 rfl dL_law_626 kk) ?_
  refine And.imp_right (fun kk => z_iconst (pc := 628) hG kc_1 dL_law_628 kk) ?_
  refine And.imp_right (fun kk => z_iadd (pc := 629) hG dL_law_629 kk) ?_
  refine And.imp_right (fun kk => z_scr (pc := 630) hG hS 1 (by decide) rfl dL_law_630 kk) ?_
  refine And.imp_right (fun kk => z_aload_n (pc := 631) hG 0 rfl rfl dL_law_631 kk) ?_
  refine And.imp_right (fun kk => z_iload (pc := 632) hG 4 rfl dL_law_632 kk) ?_
  refine And.imp_right (fun kk => z_iconst (pc := 634) hG kc_2 dL_law_634 kk) ?_
  refine And.imp_right (fun kk => z_iadd (pc := 635) hG dL_law_635 kk) ?_
  refine And.imp_right (fun kk => z_scr (pc := 636) hG hS 2 (by decide) rfl dL_law_636 kk) ?_
  refine And.imp_right (fun kk => z_aload_n (pc := 637) hG 3 rfl rfl dL_law_637 kk) ?_
  replace h := zbind h
  obtain ⟨v1, hv1, h⟩ := h
  replace h := zchk_some h
  obtain ⟨hqv1, h⟩ := h
  replace hqv1 := of_decide_eq_true hqv1
  refine And.elim (fun hb kk => ⟨Nat.le_trans hqv1 hb, z_csH (A' := A0 + (C / 64 - v1.2.2.2.2 / 64)) (B' := B0 + 2 * (C - v1.2.2.2.2)) (rest := []) hG hPx [.ref 0, .int (a 1), .int (a 2), .ref 72] (tL_box hl0 (a 1) (a 2) g hv1) zyH_box w951 w950 dL_law_638 rfl (Nat.le_of_ble_eq_true rfl) (by have hb : v1.2.2.2.2 ≤ C := hb; omega) (by have hb : v1.2.2.2.2 ≤ C := hb; omega) rfl (Nat.le_of_ble_eq_true rfl) rfl kk⟩) ?_
  refine And.imp_right (fun kk => z_istore (pc := 641) (ls' := [(5, .int v1.1), (0, .ref 950), (1, .ref 0), (2, .ref 42), (3, .ref 72), (4, .int i)]) hG [0, 1, 2, 3, 4, 5] (by decide) rfl dL_law_641 kk) ?_
  refine And.imp_right (fun kk => z_aload_n (pc := 643) hG 3 rfl rfl dL_law_643 kk) ?_
  refine And.imp_right (fun kk => z_aload_n (pc := 644) hG 1 rfl rfl dL_law_644 kk) ?_
  refine And.imp_right (fun kk => z_iload (pc := 645) hG 5 rfl dL_law_645 kk) ?_
  refine And.imp_right (fun kk => z_iconst (pc := 647) hG kc_1 dL_law_647 kk) ?_
  refine And.imp_right (fun kk => z_iadd (pc := 648) hG dL_law_648 kk) ?_
  refine And.imp_right (fun kk => z_scr (pc := 649) hG hS 1 (by decide) rfl dL_law_649 kk) ?_
  refine And.imp_right (fun kk => z_aload_n (pc := 650) hG 1 rfl rfl dL_law_650 kk) ?_
  refine And.imp_right (fun kk => z_iload (pc := 651) hG 5 rfl dL_law_651 kk) ?_
  refine And.imp_right (fun kk => z_iconst (pc := 653) hG kc_2 dL_law_653 kk) ?_
  refine And.imp_right (fun kk => z_iadd (pc := 654) hG dL_law_654 kk) ?_
  refine And.imp_right (fun kk => z_scr (pc := 655) hG hS 2 (by decide) rfl dL_law_655 kk) ?_
  replace h := zbind h
  obtain ⟨v2, hv2, h⟩ := h
  replace h := zchk_some h
  obtain ⟨hqv2, h⟩ := h
  refine And.imp_right (fun kk => z_cvI (A' := A0 + (C / 64 - v1.2.2.2.2 / 64)) (B' := B0 + 2 * (C - v1.2.2.2.2)) (nc := 0) (ns := 0) (rest := []) hG [.int (a 1), .int (a 2)] zc_X11 DL_42 (tX11_box hl0 (a 1) (a 2) v1.2 hv2) zy_X11_box ⟨w1772, w1773⟩ w1771 dL_law_656 rfl (Nat.le_of_ble_eq_true rfl) (by omega) (by omega) rfl (Nat.le_of_ble_eq_true rfl) rfl kk) ?_
  refine zpc (of_decide_eq_true hqv2) ?_
  refine And.imp_right (fun kk => z_istore (pc := 659) (ls' := [(6, .int v2.1), (5, .int v1.1), (0, .ref 950), (1, .ref 0), (2, .ref 42), (3, .ref 72), (4, .int i)]) hG [0, 1, 2, 3, 4, 5, 6] (by decide) rfl dL_law_659 kk) ?_
  refine And.imp_right (fun kk => z_goto (pc := 661) (tgt := 1939) hG dL_law_661 rfl kk) ?_
  obtain rfl := Option.some.inj h
  refine And.imp_right (fun kk => z_sub (ls' := [(0, .ref 950), (1, .ref 0), (2, .ref 42), (3, .ref 72), (4, .int i)]) [2, 3, 4, 5, 6] rfl kk) ?_
  exact kf
noncomputable def nS_12 (a : Nat → Int32) (g : zS) : Option zS :=
  (nX10_passing g).bind fun v1 => (nX11_passing g).bind fun v2 => zchk (decide (v2.2.2.2.2 = g.2.2.2)) (if v1 = v2.1 then (some v2.2) else (none))
noncomputable def nU_12 (a : Nat → Int32) (g : zS) : Option zS :=
  (nX10_passing g).bind fun v1 => (nX11_passing g).bind fun v2 => zchk (decide (v2.2.2.2.2 = g.2.2.2)) (some v2.2)
set_option maxHeartbeats 1000000 in
theorem tS_12 {x : zXx} {i : Int32} {a : Nat → Int32} (hl0 : (zl0 x).flags = flags0) (hG : zG x cL_law 7 RL ret) (hPx : zPx x.2.2.2.2.1) (hS : zScr x i a) {A0 B0 C : Nat} (g : zS) {r : zS} (h : nU_12 a g = some r) (kf : zgr r C ∧ zK x 66 1939 [(0, .ref 950), (1, .ref 0), (2, .ref 42), (3, .ref 72), (4, .int i)] [] zD r (A0 + (C / 64 - r.2.2.2 / 64)) (B0 + 2 * (C - r.2.2.2))) : zgr g C ∧ zK x 66 664 [(0, .ref 950), (1, .ref 0), (2, .ref 42), (3, .ref 72), (4, .int i)] [] zD g (A0 + 0 + (C / 64 - g.2.2.2 / 64)) (B0 + 0 + 2 * (C - g.2.2.2)) := by
  unfold nU_12 at h
  refine And.imp_right (fun kk => z_aload_n (pc := 664) hG 1 rfl rfl dL_law_664 kk) ?_
  replace h := zbind h
  obtain ⟨v1, hv1, h⟩ := h
  refine And.imp_right (fun kk => z_cvI (A' := A0 + (C / 64 - g.2.2.2 / 64)) (B' := B0 + 2 * (C - g.2.2.2)) (nc := 0) (ns := 0) (rest := []) hG [] zc_X10 DL_0 (tX10_passing hl0  g hv1) zy_X10_passing ⟨w412, w413⟩ w411 dL_law_665 rfl (Nat.le_of_ble_eq_true rfl) (by omega) (by omega) rfl (Nat.le_of_ble_eq_true rfl) rfl kk) ?_
  refine And.imp_right (fun kk => z_pop (pc := 668) hG rfl dL_law_668 kk) ?_
  refine And.imp_right (fun kk => z_aload_n (pc := 669) hG 2 rfl rfl dL_law_669 kk) ?_
  replace h := zbind h
  obtain ⟨v2, hv2, h⟩ := h
  replace h := zchk_some h
  obtain ⟨hqv2, h⟩ := h
  refine And.imp_right (fun kk => z_cvI (A' := A0 + (C / 64 - g.2.2.2 / 64)) (B' := B0 + 2 * (C - g.2.2.2)) (nc := 0) (ns := 0) (rest := []) hG [] zc_X11 DL_42 (tX11_passing hl0  g hv2) zy_X11_passing ⟨w1780, w1781⟩ w1779 dL_law_670 rfl (Nat.le_of_ble_eq_true rfl) (by omega) (by omega) rfl (Nat.le_of_ble_eq_true rfl) rfl kk) ?_
  refine zpc (of_decide_eq_true hqv2) ?_
  refine And.imp_right (fun kk => z_pop (pc := 673) hG rfl dL_law_673 kk) ?_
  refine And.imp_right (fun kk => z_goto (pc := 674) (tgt := 1939) hG dL_law_674 rfl kk) ?_
  obtain rfl := Option.some.inj h
  exact kf
noncomputable def nS_13 (a : Nat → Int32) (g : zS) : Option zS :=
  (nL_tried (a 1) g).bind fun v1 => zchk (decide (v1.2.2.2.2 = g.2.2.2)) ((nX11_tried (a 1) v1.2).bind fun v2 => zchk (decide (v2.2.2.2.2 = v1.2.2.2.2)) ((nX11_thrown v2.2).bind fun v3 => if v3 = v1.1 then (if v1.1 = 0 then (if (lg_cmp (v2.2.2.1 72 (0 : Int32).toNatClampNeg) v2.1.toInt64) = 0 then (some v2.2) else (none)) else (some v2.2)) else (none)))
noncomputable def nU_13 (a : Nat → Int32) (g : zS) : Option zS :=
  (nL_tried (a 1) g).bind fun v1 => zchk (decide (v1.2.2.2.2 = g.2.2.2)) ((nX11_tried (a 1) v1.2).bind fun v2 => zchk (decide (v2.2.2.2.2 = v1.2.2.2.2)) (some v2.2))
set_option maxHeartbeats 1000000 in
theorem tS_13 {x : zXx} {i : Int32} {a : Nat → Int32} (hl0 : (zl0 x).flags = flags0) (hG : zG x cL_law 7 RL ret) (hPx : zPx x.2.2.2.2.1) (hS : zScr x i a) {A0 B0 C : Nat} (g : zS) {r : zS} (h : nU_13 a g = some r) (kf : zgr r C ∧ zK x 66 1939 [(0, .ref 950), (1, .ref 0), (2, .ref 42), (3, .ref 72), (4, .int i)] [] zD r (A0 + (C / 64 - r.2.2.2 / 64)) (B0 + 2 * (C - r.2.2.2))) : zgr g C ∧ zK x 66 677 [(0, .ref 950), (1, .ref 0), (2, .ref 42), (3, .ref 72), (4, .int i)] [] zD g (A0 + 1 + (C / 64 - g.2.2.2 / 64)) (B0 + 6 + 2 * (C - g.2.2.2)) := by
  unfold nU_13 at h
  refine And.imp_right (fun kk => z_aload_n (pc := 677) hG 1 rfl rfl dL_law_677 kk) ?_
  refine And.imp_right (fun kk => z_aload_n (pc := 678) hG 0 rfl rfl dL_law_678 kk) ?_
  refine And.imp_right (fun kk => z_iload (pc := 679) hG 4 rfl dL_law_679 kk) ?_
  refine And.imp_right (fun kk => z_iconst (pc := 681) hG kc_1 dL_law_681 kk) ?_
  refine And.imp_right (fun kk => z_iadd (pc := 682) hG dL_law_682 kk) ?_
  refine And.imp_right (fun kk => z_scr (pc := 683) hG hS 1 (by decide) rfl dL_law_683 kk) ?_
  refine And.imp_right (fun kk => z_aload_n (pc := 684) hG 3 rfl rfl dL_law_684 kk) ?_
  replace h := zbind h
  obtain ⟨v1, hv1, h⟩ := h
  replace h := zchk_some h
  obtain ⟨hqv1, h⟩ := h
  refine And.imp_right (fun kk => z_csH (A' := A0 + (C / 64 - g.2.2.2 / 64)) (B' := B0 + 2 * (C - g.2.2.2)) (rest := []) hG hPx [.ref 0, .int (a 1), .ref 72] (tL_tried hl0 (a 1) g hv1) zyH_tried w964 w963 dL_law_685 rfl (Nat.le_of_ble_eq_true rfl) (by omega) (by omega) rfl (Nat.le_of_ble_eq_true rfl) rfl kk) ?_
  refine zpc (of_decide_eq_true hqv1) ?_
  refine And.imp_right (fun kk => z_istore (pc := 688) (ls' := [(5, .int v1.1), (0, .ref 950), (1, .ref 0), (2, .ref 42), (3, .ref 72), (4, .int i)]) hG [0, 1, 2, 3, 4, 5] (by decide) rfl dL_law_688 kk) ?_
  refine And.imp_right (fun kk => z_aload_n (pc := 690) hG 3 rfl rfl dL_law_690 kk) ?_
  refine And.imp_right (fun kk => z_aload_n (pc := 691) hG 1 rfl rfl dL_law_691 kk) ?_
  refine And.imp_right (fun kk => z_iload (pc := 692) hG 5 rfl dL_law_692 kk) ?_
  refine And.imp_right (fun kk => z_iconst (pc := 694) hG kc_1 dL_law_694 kk) ?_
  refine And.imp_right (fun kk => z_iadd (pc := 695) hG dL_law_695 kk) ?_
  refine And.imp_right (fun kk => z_scr (pc := 696) hG hS 1 (by decide) rfl dL_law_696 kk) ?_
  replace h := zbind h
  obtain ⟨v2, hv2, h⟩ := h
  replace h := zchk_some h
  obtain ⟨hqv2, h⟩ := h
  refine And.imp_right (fun kk => z_cvI (A' := A0 + (C / 64 - v1.2.2.2.2 / 64)) (B' := B0 + 2 * (C - v1.2.2.2.2)) (nc := 0) (ns := 0) (rest := []) hG [.int (a 1)] zc_X11 DL_42 (tX11_tried hl0 (a 1) v1.2 hv2) zy_X11_tried ⟨w1788, w1789⟩ w1787 dL_law_697 rfl (Nat.le_of_ble_eq_true rfl) (by omega) (by omega) rfl (Nat.le_of_ble_eq_true rfl) rfl kk) ?_
  refine zpc (of_decide_eq_true hqv2) ?_
  refine And.imp_right (fun kk => z_istore (pc := 700) (ls' := [(6, .int v2.1), (5, .int v1.1), (0, .ref 950), (1, .ref 0), (2, .ref 42), (3, .ref 72), (4, .int i)]) hG [0, 1, 2, 3, 4, 5, 6] (by decide) rfl dL_law_700 kk) ?_
  refine And.imp_right (fun kk => z_goto (pc := 702) (tgt := 1939) hG dL_law_702 rfl kk) ?_
  obtain rfl := Option.some.inj h
  refine And.imp_right (fun kk => z_sub (ls' := [(0, .ref 950), (1, .ref 0), (2, .ref 42), (3, .ref 72), (4, .int i)]) [2, 3, 4, 5, 6] rfl kk) ?_
  exact kf
noncomputable def nS_14 (a : Nat → Int32) (g : zS) : Option zS :=
  (nL_answer (a 1) (a 2) g).bind fun v1 => zchk (decide (v1.2.2.2.2 = g.2.2.2)) ((nX11_answer (a 1) (a 2) v1.2).bind fun v2 => zchk (decide (v2.2.2.2.2 = v1.2.2.2.2)) ((nX11_thrown v2.2).bind fun v3 => if v3 = v1.1 then (if v1.1 = 0 then (if (lg_cmp (v2.2.2.1 72 (0 : Int32).toNatClampNeg) v2.1.toInt64) = 0 then (some v2.2) else (none)) else (some v2.2)) else (none)))
noncomputable def nU_14 (a : Nat → Int32) (g : zS) : Option zS :=
  (nL_answer (a 1) (a 2) g).bind fun v1 => zchk (decide (v1.2.2.2.2 = g.2.2.2)) ((nX11_answer (a 1) (a 2) v1.2).bind fun v2 => zchk (decide (v2.2.2.2.2 = v1.2.2.2.2)) (some v2.2))
set_option maxHeartbeats 1000000 in
theorem tS_14 {x : zXx} {i : Int32} {a : Nat → Int32} (hl0 : (zl0 x).flags = flags0) (hG : zG x cL_law 7 RL ret) (hPx : zPx x.2.2.2.2.1) (hS : zScr x i a) {A0 B0 C : Nat} (g : zS) {r : zS} (h : nU_14 a g = some r) (kf : zgr r C ∧ zK x 66 1939 [(0, .ref 950), (1, .ref 0), (2, .ref 42), (3, .ref 72), (4, .int i)] [] zD r (A0 + (C / 64 - r.2.2.2 / 64)) (B0 + 2 * (C - r.2.2.2))) : zgr g C ∧ zK x 66 705 [(0, .ref 950), (1, .ref 0), (2, .ref 42), (3, .ref 72), (4, .int i)] [] zD g (A0 + 2 + (C / 64 - g.2.2.2 / 64)) (B0 + 12 + 2 * (C - g.2.2.2)) := by
  unfold nU_14 at h
  refine And.imp_right (fun kk => z_aload_n (pc := 705) hG 1 rfl rfl dL_law_705 kk) ?_
  refine And.imp_right (fun kk => z_aload_n (pc := 706) hG 0 rfl rfl dL_law_706 kk) ?_
  refine And.imp_right (fun kk => z_iload (pc := 707) hG 4 rfl dL_law_707 kk) ?_
  refine And.imp_right (fun kk => z_iconst (pc := 709) hG kc_1 dL_law_709 kk) ?_
  refine And.imp_right (fun kk => z_iadd (pc := 710) hG dL_law_710 kk) ?_
  refine And.imp_right (fun kk => z_scr (pc := 711) hG hS 1 (by decide) rfl dL_law_711 kk) ?_
  refine And.imp_right (fun kk => z_aload_n (pc := 712) hG 0 rfl rfl dL_law_712 kk) ?_
  refine And.imp_right (fun kk => z_iload (pc := 713) hG 4 rfl dL_law_713 kk) ?_
  refine And.imp_right (fun kk => z_iconst (pc := 715) hG kc_2 dL_law_715 kk) ?_
  refine And.imp_right (fun kk => z_iadd (pc := 716) hG dL_law_716 kk) ?_
  refine And.imp_right (fun kk => z_scr (pc := 717) hG hS 2 (by decide) rfl dL_law_717 kk) ?_
  refine And.imp_right (fun kk => z_aload_n (pc := 718) hG 3 rfl rfl dL_law_718 kk) ?_
  replace h := zbind h
  obtain ⟨v1, hv1, h⟩ := h
  replace h := zchk_some h
  obtain ⟨hqv1, h⟩ := h
  refine And.imp_right (fun kk => z_csH (A' := A0 + (C / 64 - g.2.2.2 / 64)) (B' := B0 + 2 * (C - g.2.2.2)) (rest := []) hG hPx [.ref 0, .int (a 1), .int (a 2), .ref 72] (tL_answer hl0 (a 1) (a 2) g hv1) zyH_answer w981 w980 dL_law_719 rfl (Nat.le_of_ble_eq_true rfl) (by omega) (by omega) rfl (Nat.le_of_ble_eq_true rfl) rfl kk) ?_
  refine zpc (of_decide_eq_true hqv1) ?_
  refine And.imp_right (fun kk => z_istore (pc := 722) (ls' := [(5, .int v1.1), (0, .ref 950), (1, .ref 0), (2, .ref 42), (3, .ref 72), (4, .int i)]) hG [0, 1, 2, 3, 4, 5] (by decide) rfl dL_law_722 kk) ?_
  refine And.imp_right (fun kk => z_aload_n (pc := 724) hG 3 rfl rfl dL_law_724 kk) ?_
  refine And.imp_right (fun kk => z_aload_n (pc := 725) hG 1 rfl rfl dL_law_725 kk) ?_
  refine And.imp_right (fun kk => z_iload (pc := 726) hG 5 rfl dL_law_726 kk) ?_
  refine And.imp_right (fun kk => z_iconst (pc := 728) hG kc_1 dL_law_728 kk) ?_
  refine And.imp_right (fun kk => z_iadd (pc := 729) hG dL_law_729 kk) ?_
  refine And.imp_right (fun kk => z_scr (pc := 730) hG hS 1 (by decide) rfl dL_law_730 kk) ?_
  refine And.imp_right (fun kk => z_aload_n (pc := 731) hG 1 rfl rfl dL_law_731 kk) ?_
  refine And.imp_right (fun kk => z_iload (pc := 732) hG 5 rfl dL_law_732 kk) ?_
  refine And.imp_right (fun kk => z_iconst (pc := 734) hG kc_2 dL_law_734 kk) ?_
  refine And.imp_right (fun kk => z_iadd (pc := 735) hG dL_law_735 kk) ?_
  refine And.imp_right (fun kk => z_scr (pc := 736) hG hS 2 (by decide) rfl dL_law_736 kk) ?_
  replace h := zbind h
  obtain ⟨v2, hv2, h⟩ := h
  replace h := zchk_some h
  obtain ⟨hqv2, h⟩ := h
  refine And.imp_right (fun kk => z_cvI (A' := A0 + (C / 64 - v1.2.2.2.2 / 64)) (B' := B0 + 2 * (C - v1.2.2.2.2)) (nc := 0) (ns := 0) (rest := []) hG [.int (a 1), .int (a 2)] zc_X11 DL_42 (tX11_answer hl0 (a 1) (a 2) v1.2 hv2) zy_X11_answer ⟨w1792, w1793⟩ w1791 dL_law_737 rfl (Nat.le_of_ble_eq_true rfl) (by omega) (by omega) rfl (Nat.le_of_ble_eq_true rfl) rfl kk) ?_
  refine zpc (of_decide_eq_true hqv2) ?_
  refine And.imp_right (fun kk => z_istore (pc := 740) (ls' := [(6, .int v2.1), (5, .int v1.1), (0, .ref 950), (1, .ref 0), (2, .ref 42), (3, .ref 72), (4, .int i)]) hG [0, 1, 2, 3, 4, 5, 6] (by decide) rfl dL_law_740 kk) ?_
  refine And.imp_right (fun kk => z_goto (pc := 742) (tgt := 1939) hG dL_law_742 rfl kk) ?_
  obtain rfl := Option.some.inj h
  refine And.imp_right (fun kk => z_sub (ls' := [(0, .ref 950), (1, .ref 0), (2, .ref 42), (3, .ref 72), (4, .int i)]) [2, 3, 4, 5, 6] rfl kk) ?_
  exact kf
noncomputable def nS_15 (a : Nat → Int32) (g : zS) : Option zS :=
  (nL_tell (a 1) (a 2) (a 3) g).bind fun v1 => zchk (decide (v1.2.2.2.2 = g.2.2.2)) ((nX11_tell (a 1) (a 2) (a 3) v1.2).bind fun v2 => zchk (decide (v2.2.2.2.2 = v1.2.2.2.2)) ((nX11_thrown v2.2).bind fun v3 => if v3 = v1.1 then (if v1.1 = 0 then (if (lg_cmp (v2.2.2.1 72 (0 : Int32).toNatClampNeg) v2.1.toInt64) = 0 then (some v2.2) else (none)) else (some v2.2)) else (none)))
noncomputable def nU_15 (a : Nat → Int32) (g : zS) : Option zS :=
  (nL_tell (a 1) (a 2) (a 3) g).bind fun v1 => zchk (decide (v1.2.2.2.2 = g.2.2.2)) ((nX11_tell (a 1) (a 2) (a 3) v1.2).bind fun v2 => zchk (decide (v2.2.2.2.2 = v1.2.2.2.2)) (some v2.2))
set_option maxHeartbeats 1000000 in
theorem tS_15 {x : zXx} {i : Int32} {a : Nat → Int32} (hl0 : (zl0 x).flags = flags0) (hG : zG x cL_law 7 RL ret) (hPx : zPx x.2.2.2.2.1) (hS : zScr x i a) {A0 B0 C : Nat} (g : zS) {r : zS} (h : nU_15 a g = some r) (kf : zgr r C ∧ zK x 66 1939 [(0, .ref 950), (1, .ref 0), (2, .ref 42), (3, .ref 72), (4, .int i)] [] zD r (A0 + (C / 64 - r.2.2.2 / 64)) (B0 + 2 * (C - r.2.2.2))) : zgr g C ∧ zK x 66 745 [(0, .ref 950), (1, .ref 0), (2, .ref 42), (3, .ref 72), (4, .int i)] [] zD g (A0 + 3 + (C / 64 - g.2.2.2 / 64)) (B0 + 18 + 2 * (C - g.2.2.2)) := by
  unfold nU_15 at h
  refine And.imp_right (fun kk => z_aload_n (pc := 745) hG 1 rfl rfl dL_law_745 kk) ?_
  refine And.imp_right (fun kk => z_aload_n (pc := 746) hG 0 rfl rfl dL_law_746 kk) ?_
  refine And.imp_right (fun kk => z_iload (pc := 747) hG 4 rfl dL_law_747 kk) ?_
  refine And.imp_right (fun kk => z_iconst (pc := 749) hG kc_1 dL_law_749 kk) ?_
  refine And.imp_right (fun kk => z_iadd (pc := 750) hG dL_law_750 kk) ?_
  refine And.imp_right (fun kk => z_scr (pc := 751) hG hS 1 (by decide) rfl dL_law_751 kk) ?_
  refine And.imp_right (fun kk => z_aload_n (pc := 752) hG 0 rfl rfl dL_law_752 kk) ?_
  refine And.imp_right (fun kk => z_iload (pc := 753) hG 4 rfl dL_law_753 kk) ?_
  refine And.imp_right (fun kk => z_iconst (pc := 755) hG kc_2 dL_law_755 kk) ?_
  refine And.imp_right (fun kk => z_iadd (pc := 756) hG dL_law_756 kk) ?_
  refine And.imp_right (fun kk => z_scr (pc := 757) hG hS 2 (by decide) rfl dL_law_757 kk) ?_
  refine And.imp_right (fun kk => z_aload_n (pc := 758) hG 0 rfl rfl dL_law_758 kk) ?_
  refine And.imp_right (fun kk => z_iload (pc := 759) hG 4 rfl dL_law_759 kk) ?_
  refine And.imp_right (fun kk => z_iconst (pc := 761) hG kc_3 dL_law_761 kk) ?_
  refine And.imp_right (fun kk => z_iadd (pc := 762) hG dL_law_762 kk) ?_
  refine And.imp_right (fun kk => z_scr (pc := 763) hG hS 3 (by decide) rfl dL_law_763 kk) ?_
  refine And.imp_right (fun kk => z_aload_n (pc := 764) hG 3 rfl rfl dL_law_764 kk) ?_
  replace h := zbind h
  obtain ⟨v1, hv1, h⟩ := h
  replace h := zchk_some h
  obtain ⟨hqv1, h⟩ := h
  refine And.imp_right (fun kk => z_csH (A' := A0 + (C / 64 - g.2.2.2 / 64)) (B' := B0 + 2 * (C - g.2.2.2)) (rest := []) hG hPx [.ref 0, .int (a 1), .int (a 2), .int (a 3), .ref 72] (tL_tell hl0 (a 1) (a 2) (a 3) g hv1) zyH_tell w997 w996 dL_law_765 rfl (Nat.le_of_ble_eq_true rfl) (by omega) (by omega) rfl (Nat.le_of_ble_eq_true rfl) rfl kk) ?_
  refine zpc (of_decide_eq_true hqv1) ?_
  refine And.imp_right (fun kk => z_istore (pc := 768) (ls' := [(5, .int v1.1), (0, .ref 950), (1, .ref 0), (2, .ref 42), (3, .ref 72), (4, .int i)]) hG [0, 1, 2, 3, 4, 5] (by decide) rfl dL_law_768 kk) ?_
  refine And.imp_right (fun kk => z_aload_n (pc := 770) hG 3 rfl rfl dL_law_770 kk) ?_
  refine And.imp_right (fun kk => z_aload_n (pc := 771) hG 1 rfl rfl dL_law_771 kk) ?_
  refine And.imp_right (fun kk => z_iload (pc := 772) hG 5 rfl dL_law_772 kk) ?_
  refine And.imp_right (fun kk => z_iconst (pc := 774) hG kc_1 dL_law_774 kk) ?_
  refine And.imp_right (fun kk => z_iadd (pc := 775) hG dL_law_775 kk) ?_
  refine And.imp_right (fun kk => z_scr (pc := 776) hG hS 1 (by decide) rfl dL_law_776 kk) ?_
  refine And.imp_right (fun kk => z_aload_n (pc := 777) hG 1 rfl rfl dL_law_777 kk) ?_
  refine And.imp_right (fun kk => z_iload (pc := 778) hG 5 rfl dL_law_778 kk) ?_
  refine And.imp_right (fun kk => z_iconst (pc := 780) hG kc_2 dL_law_780 kk) ?_
  refine And.imp_right (fun kk => z_iadd (pc := 781) hG dL_law_781 kk) ?_
  refine And.imp_right (fun kk => z_scr (pc := 782) hG hS 2 (by decide) rfl dL_law_782 kk) ?_
  refine And.imp_right (fun kk => z_aload_n (pc := 783) hG 1 rfl rfl dL_law_783 kk) ?_
  refine And.imp_right (fun kk => z_iload (pc := 784) hG 5 rfl dL_law_784 kk) ?_
  refine And.imp_right (fun kk => z_iconst (pc := 786) hG kc_3 dL_law_786 kk) ?_
  refine And.imp_right (fun kk => z_iadd (pc := 787) hG dL_law_787 kk) ?_
  refine And.imp_right (fun kk => z_scr (pc := 788) hG hS 3 (by decide) rfl dL_law_788 kk) ?_
  replace h := zbind h
  obtain ⟨v2, hv2, h⟩ := h
  replace h := zchk_some h
  obtain ⟨hqv2, h⟩ := h
  refine And.imp_right (fun kk => z_cvI (A' := A0 + (C / 64 - v1.2.2.2.2 / 64)) (B' := B0 + 2 * (C - v1.2.2.2.2)) (nc := 0) (ns := 0) (rest := []) hG [.int (a 1), .int (a 2), .int (a 3)] zc_X11 DL_42 (tX11_tell hl0 (a 1) (a 2) (a 3) v1.2 hv2) zy_X11_tell ⟨w1804, w1805⟩ w1803 dL_law_789 rfl (Nat.le_of_ble_eq_true rfl) (by omega) (by omega) rfl (Nat.le_of_ble_eq_true rfl) rfl kk) ?_
  refine zpc (of_decide_eq_true hqv2) ?_
  refine And.imp_right (fun kk => z_istore (pc := 792) (ls' := [(6, .int v2.1), (5, .int v1.1), (0, .ref 950), (1, .ref 0), (2, .ref 42), (3, .ref 72), (4, .int i)]) hG [0, 1, 2, 3, 4, 5, 6] (by decide) rfl dL_law_792 kk) ?_
  refine And.imp_right (fun kk => z_goto (pc := 794) (tgt := 1939) hG dL_law_794 rfl kk) ?_
  obtain rfl := Option.some.inj h
  refine And.imp_right (fun kk => z_sub (ls' := [(0, .ref 950), (1, .ref 0), (2, .ref 42), (3, .ref 72), (4, .int i)]) [2, 3, 4, 5, 6] rfl kk) ?_
  exact kf
noncomputable def nS_16 (a : Nat → Int32) (g : zS) : Option zS :=
  (nL_copy (a 1) g).bind fun v1 => zchk (decide (v1.2.2.2.2 = g.2.2.2)) ((nX11_copy (a 1) v1.2).bind fun v2 => zchk (decide (v2.2.2.2.2 = v1.2.2.2.2)) ((nX11_thrown v2.2).bind fun v3 => if v3 = v1.1 then (if v1.1 = 0 then (if (lg_cmp (v2.2.2.1 72 (0 : Int32).toNatClampNeg) v2.1.toInt64) = 0 then (some v2.2) else (none)) else (some v2.2)) else (none)))
noncomputable def nU_16 (a : Nat → Int32) (g : zS) : Option zS :=
  (nL_copy (a 1) g).bind fun v1 => zchk (decide (v1.2.2.2.2 = g.2.2.2)) ((nX11_copy (a 1) v1.2).bind fun v2 => zchk (decide (v2.2.2.2.2 = v1.2.2.2.2)) (some v2.2))
set_option maxHeartbeats 1000000 in
theorem tS_16 {x : zXx} {i : Int32} {a : Nat → Int32} (hl0 : (zl0 x).flags = flags0) (hG : zG x cL_law 7 RL ret) (hPx : zPx x.2.2.2.2.1) (hS : zScr x i a) {A0 B0 C : Nat} (g : zS) {r : zS} (h : nU_16 a g = some r) (kf : zgr r C ∧ zK x 66 1939 [(0, .ref 950), (1, .ref 0), (2, .ref 42), (3, .ref 72), (4, .int i)] [] zD r (A0 + (C / 64 - r.2.2.2 / 64)) (B0 + 2 * (C - r.2.2.2))) : zgr g C ∧ zK x 66 797 [(0, .ref 950), (1, .ref 0), (2, .ref 42), (3, .ref 72), (4, .int i)] [] zD g (A0 + 2 + (C / 64 - g.2.2.2 / 64)) (B0 + 12 + 2 * (C - g.2.2.2)) := by
  unfold nU_16 at h
  refine And.imp_right (fun kk => z_aload_n (pc := 797) hG 1 rfl rfl dL_law_797 kk) ?_
  refine And.imp_right (fun kk => z_aload_n (pc := 798) hG 0 rfl rfl dL_law_798 kk) ?_
  refine And.imp_right (fun kk => z_iload (pc := 799) hG 4 rfl dL_law_799 kk) ?_
  refine And.imp_right (fun kk => z_iconst (pc := 801) hG kc_1 dL_law_801 kk) ?_
  refine And.imp_right (fun kk => z_iadd (pc := 802) hG dL_law_802 kk) ?_
  refine And.imp_right (fun kk => z_scr (pc := 803) hG hS 1 (by decide) rfl dL_law_803 kk) ?_
  refine And.imp_right (fun kk => z_aload_n (pc := 804) hG 3 rfl rfl dL_law_804 kk) ?_
  replace h := zbind h
  obtain ⟨v1, hv1, h⟩ := h
  replace h := zchk_some h
  obtain ⟨hqv1, h⟩ := h
  refine And.imp_right (fun kk => z_csH (A' := A0 + (C / 64 - g.2.2.2 / 64)) (B' := B0 + 2 * (C - g.2.2.2)) (rest := []) hG hPx [.ref 0, .int (a 1), .ref 72] (tL_copy hl0 (a 1) g hv1) zyH_copy w1013 w1012 dL_law_805 rfl (Nat.le_of_ble_eq_true rfl) (by omega) (by omega) rfl (Nat.le_of_ble_eq_true rfl) rfl kk) ?_
  refine zpc (of_decide_eq_true hqv1) ?_
  refine And.imp_right (fun kk => z_istore (pc := 808) (ls' := [(5, .int v1.1), (0, .ref 950), (1, .ref 0), (2, .ref 42), (3, .ref 72), (4, .int i)]) hG [0, 1, 2, 3, 4, 5] (by decide) rfl dL_law_808 kk) ?_
  refine And.imp_right (fun kk => z_aload_n (pc := 810) hG 3 rfl rfl dL_law_810 kk) ?_
  refine And.imp_right (fun kk => z_aload_n (pc := 811) hG 1 rfl rfl dL_law_811 kk) ?_
  refine And.imp_right (fun kk => z_iload (pc := 812) hG 5 rfl dL_law_812 kk) ?_
  refine And.imp_right (fun kk => z_iconst (pc := 814) hG kc_1 dL_law_814 kk) ?_
  refine And.imp_right (fun kk => z_iadd (pc := 815) hG dL_law_815 kk) ?_
  refine And.imp_right (fun kk => z_scr (pc := 816) hG hS 1 (by decide) rfl dL_law_816 kk) ?_
  replace h := zbind h
  obtain ⟨v2, hv2, h⟩ := h
  replace h := zchk_some h
  obtain ⟨hqv2, h⟩ := h
  refine And.imp_right (fun kk => z_cvI (A' := A0 + (C / 64 - v1.2.2.2.2 / 64)) (B' := B0 + 2 * (C - v1.2.2.2.2)) (nc := 0) (ns := 0) (rest := []) hG [.int (a 1)] zc_X11 DL_42 (tX11_copy hl0 (a 1) v1.2 hv2) zy_X11_copy ⟨w1812, w1813⟩ w1811 dL_law_817 rfl (Nat.le_of_ble_eq_true rfl) (by omega) (by omega) rfl (Nat.le_of_ble_eq_true rfl) rfl kk) ?_
  refine zpc (of_decide_eq_true hqv2) ?_
  refine And.imp_right (fun kk => z_istore (pc := 820) (ls' := [(6, .int v2.1), (5, .int v1.1), (0, .ref 950), (1, .ref 0), (2, .ref 42), (3, .ref 72), (4, .int i)]) hG [0, 1, 2, 3, 4, 5, 6] (by decide) rfl dL_law_820 kk) ?_
  refine And.imp_right (fun kk => z_goto (pc := 822) (tgt := 1939) hG dL_law_822 rfl kk) ?_
  obtain rfl := Option.some.inj h
  refine And.imp_right (fun kk => z_sub (ls' := [(0, .ref 950), (1, .ref 0), (2, .ref 42), (3, .ref 72), (4, .int i)]) [2, 3, 4, 5, 6] rfl kk) ?_
  exact kf
noncomputable def nS_17 (a : Nat → Int32) (g : zS) : Option zS :=
  (nL_drop  g).bind fun v1 => zchk (decide (v1.2.2.2.2 = g.2.2.2)) ((nX11_drop v1.2).bind fun v2 => zchk (decide (v2.2.2.2.2 = v1.2.2.2.2)) ((nX11_thrown v2.2).bind fun v3 => if v3 = v1.1 then (if v1.1 = 0 then (if (lg_cmp (v2.2.2.1 72 (0 : Int32).toNatClampNeg) v2.1.toInt64) = 0 then (some v2.2) else (none)) else (some v2.2)) else (none)))
noncomputable def nU_17 (a : Nat → Int32) (g : zS) : Option zS :=
  (nL_drop  g).bind fun v1 => zchk (decide (v1.2.2.2.2 = g.2.2.2)) ((nX11_drop v1.2).bind fun v2 => zchk (decide (v2.2.2.2.2 = v1.2.2.2.2)) (some v2.2))
set_option maxHeartbeats 1000000 in
theorem tS_17 {x : zXx} {i : Int32} {a : Nat → Int32} (hl0 : (zl0 x).flags = flags0) (hG : zG x cL_law 7 RL ret) (hPx : zPx x.2.2.2.2.1) (hS : zScr x i a) {A0 B0 C : Nat} (g : zS) {r : zS} (h : nU_17 a g = some r) (kf : zgr r C ∧ zK x 66 1939 [(0, .ref 950), (1, .ref 0), (2, .ref 42), (3, .ref 72), (4, .int i)] [] zD r (A0 + (C / 64 - r.2.2.2 / 64)) (B0 + 2 * (C - r.2.2.2))) : zgr g C ∧ zK x 66 825 [(0, .ref 950), (1, .ref 0), (2, .ref 42), (3, .ref 72), (4, .int i)] [] zD g (A0 + 1 + (C / 64 - g.2.2.2 / 64)) (B0 + 6 + 2 * (C - g.2.2.2)) := by
  unfold nU_17 at h
  refine And.imp_right (fun kk => z_aload_n (pc := 825) hG 1 rfl rfl dL_law_825 kk) ?_
  refine And.imp_right (fun kk => z_aload_n (pc := 826) hG 3 rfl rfl dL_law_826 kk) ?_
  replace h := zbind h
  obtain ⟨v1, hv1, h⟩ := h
  replace h := zchk_some h
  obtain ⟨hqv1, h⟩ := h
  refine And.imp_right (fun kk => z_csH (A' := A0 + (C / 64 - g.2.2.2 / 64)) (B' := B0 + 2 * (C - g.2.2.2)) (rest := []) hG hPx [.ref 0, .ref 72] (tL_drop hl0  g hv1) zyH_drop w1036 w1035 dL_law_827 rfl (Nat.le_of_ble_eq_true rfl) (by omega) (by omega) rfl (Nat.le_of_ble_eq_true rfl) rfl kk) ?_
  refine zpc (of_decide_eq_true hqv1) ?_
  refine And.imp_right (fun kk => z_istore (pc := 830) (ls' := [(5, .int v1.1), (0, .ref 950), (1, .ref 0), (2, .ref 42), (3, .ref 72), (4, .int i)]) hG [0, 1, 2, 3, 4, 5] (by decide) rfl dL_law_830 kk) ?_
  refine And.imp_right (fun kk => z_aload_n (pc := 832) hG 3 rfl rfl dL_law_832 kk) ?_
  replace h := zbind h
  obtain ⟨v2, hv2, h⟩ := h
  replace h := zchk_some h
  obtain ⟨hqv2, h⟩ := h
  refine And.imp_right (fun kk => z_cvI (A' := A0 + (C / 64 - v1.2.2.2.2 / 64)) (B' := B0 + 2 * (C - v1.2.2.2.2)) (nc := 0) (ns := 0) (rest := []) hG [] zc_X11 DL_42 (tX11_drop hl0  v1.2 hv2) zy_X11_drop ⟨w1816, w1817⟩ w1815 dL_law_833 rfl (Nat.le_of_ble_eq_true rfl) (by omega) (by omega) rfl (Nat.le_of_ble_eq_true rfl) rfl kk) ?_
  refine zpc (of_decide_eq_true hqv2) ?_
  refine And.imp_right (fun kk => z_istore (pc := 836) (ls' := [(6, .int v2.1), (5, .int v1.1), (0, .ref 950), (1, .ref 0), (2, .ref 42), (3, .ref 72), (4, .int i)]) hG [0, 1, 2, 3, 4, 5, 6] (by decide) rfl dL_law_836 kk) ?_
  refine And.imp_right (fun kk => z_goto (pc := 838) (tgt := 1939) hG dL_law_838 rfl kk) ?_
  obtain rfl := Option.some.inj h
  refine And.imp_right (fun kk => z_sub (ls' := [(0, .ref 950), (1, .ref 0), (2, .ref 42), (3, .ref 72), (4, .int i)]) [2, 3, 4, 5, 6] rfl kk) ?_
  exact kf
noncomputable def nS_18 (a : Nat → Int32) (g : zS) : Option zS :=
  (nL_fails (a 1) g).bind fun v1 => zchk (decide (v1.2.2.2.2 = g.2.2.2)) ((nX11_fails (a 1) v1.2).bind fun v2 => zchk (decide (v2.2.2.2.2 = v1.2.2.2.2)) ((nX11_thrown v2.2).bind fun v3 => if v3 = v1.1 then (if v1.1 = 0 then (if (lg_cmp (v2.2.2.1 72 (0 : Int32).toNatClampNeg) v2.1.toInt64) = 0 then (some v2.2) else (none)) else (some v2.2)) else (none)))
noncomputable def nU_18 (a : Nat → Int32) (g : zS) : Option zS :=
  (nL_fails (a 1) g).bind fun v1 => zchk (decide (v1.2.2.2.2 = g.2.2.2)) ((nX11_fails (a 1) v1.2).bind fun v2 => zchk (decide (v2.2.2.2.2 = v1.2.2.2.2)) (some v2.2))
set_option maxHeartbeats 1000000 in
theorem tS_18 {x : zXx} {i : Int32} {a : Nat → Int32} (hl0 : (zl0 x).flags = flags0) (hG : zG x cL_law 7 RL ret) (hPx : zPx x.2.2.2.2.1) (hS : zScr x i a) {A0 B0 C : Nat} (g : zS) {r : zS} (h : nU_18 a g = some r) (kf : zgr r C ∧ zK x 66 1939 [(0, .ref 950), (1, .ref 0), (2, .ref 42), (3, .ref 72), (4, .int i)] [] zD r (A0 + (C / 64 - r.2.2.2 / 64)) (B0 + 2 * (C - r.2.2.2))) : zgr g C ∧ zK x 66 841 [(0, .ref 950), (1, .ref 0), (2, .ref 42), (3, .ref 72), (4, .int i)] [] zD g (A0 + 1 + (C / 64 - g.2.2.2 / 64)) (B0 + 6 + 2 * (C - g.2.2.2)) := by
  unfold nU_18 at h
  refine And.imp_right (fun kk => z_aload_n (pc := 841) hG 1 rfl rfl dL_law_841 kk) ?_
  refine And.imp_right (fun kk => z_aload_n (pc := 842) hG 0 rfl rfl dL_law_842 kk) ?_
  refine And.imp_right (fun kk => z_iload (pc := 843) hG 4 rfl dL_law_843 kk) ?_
  refine And.imp_right (fun kk => z_iconst (pc := 845) hG kc_1 dL_law_845 kk) ?_
  refine And.imp_right (fun kk => z_iadd (pc := 846) hG dL_law_846 kk) ?_
  refine And.imp_right (fun kk => z_scr (pc := 847) hG hS 1 (by decide) rfl dL_law_847 kk) ?_
  refine And.imp_right (fun kk => z_aload_n (pc := 848) hG 3 rfl rfl dL_law_848 kk) ?_
  replace h := zbind h
  obtain ⟨v1, hv1, h⟩ := h
  replace h := zchk_some h
  obtain ⟨hqv1, h⟩ := h
  refine And.imp_right (fun kk => z_csH (A' := A0 + (C / 64 - g.2.2.2 / 64)) (B' := B0 + 2 * (C - g.2.2.2)) (rest := []) hG hPx [.ref 0, .int (a 1), .ref 72] (tL_fails hl0 (a 1) g hv1) zyH_fails w1043 w1042 dL_law_849 rfl (Nat.le_of_ble_eq_true rfl) (by omega) (by omega) rfl (Nat.le_of_ble_eq_true rfl) rfl kk) ?_
  refine zpc (of_decide_eq_true hqv1) ?_
  refine And.imp_right (fun kk => z_istore (pc := 852) (ls' := [(5, .int v1.1), (0, .ref 950), (1, .ref 0), (2, .ref 42), (3, .ref 72), (4, .int i)]) hG [0, 1, 2, 3, 4, 5] (by decide) rfl dL_law_852 kk) ?_
  refine And.imp_right (fun kk => z_aload_n (pc := 854) hG 3 rfl rfl dL_law_854 kk) ?_
  refine And.imp_right (fun kk => z_aload_n (pc := 855) hG 1 rfl rfl dL_law_855 kk) ?_
  refine And.imp_right (fun kk => z_iload (pc := 856) hG 5 rfl dL_law_856 kk) ?_
  refine And.imp_right (fun kk => z_iconst (pc := 858) hG kc_1 dL_law_858 kk) ?_
  refine And.imp_right (fun kk => z_iadd (pc := 859) hG dL_law_859 kk) ?_
  refine And.imp_right (fun kk => z_scr (pc := 860) hG hS 1 (by decide) rfl dL_law_860 kk) ?_
  replace h := zbind h
  obtain ⟨v2, hv2, h⟩ := h
  replace h := zchk_some h
  obtain ⟨hqv2, h⟩ := h
  refine And.imp_right (fun kk => z_cvI (A' := A0 + (C / 64 - v1.2.2.2.2 / 64)) (B' := B0 + 2 * (C - v1.2.2.2.2)) (nc := 0) (ns := 0) (rest := []) hG [.int (a 1)] zc_X11 DL_42 (tX11_fails hl0 (a 1) v1.2 hv2) zy_X11_fails ⟨w1820, w1821⟩ w1819 dL_law_861 rfl (Nat.le_of_ble_eq_true rfl) (by omega) (by omega) rfl (Nat.le_of_ble_eq_true rfl) rfl kk) ?_
  refine zpc (of_decide_eq_true hqv2) ?_
  refine And.imp_right (fun kk => z_istore (pc := 864) (ls' := [(6, .int v2.1), (5, .int v1.1), (0, .ref 950), (1, .ref 0), (2, .ref 42), (3, .ref 72), (4, .int i)]) hG [0, 1, 2, 3, 4, 5, 6] (by decide) rfl dL_law_864 kk) ?_
  refine And.imp_right (fun kk => z_goto (pc := 866) (tgt := 1939) hG dL_law_866 rfl kk) ?_
  obtain rfl := Option.some.inj h
  refine And.imp_right (fun kk => z_sub (ls' := [(0, .ref 950), (1, .ref 0), (2, .ref 42), (3, .ref 72), (4, .int i)]) [2, 3, 4, 5, 6] rfl kk) ?_
  exact kf
noncomputable def nS_19 (a : Nat → Int32) (g : zS) : Option zS :=
  (nL_within (a 1) (a 2) g).bind fun v1 => zchk (decide (g.2.2.2 ≤ v1.2.2.2.2)) ((nX11_within (a 1) (a 2) v1.2).bind fun v2 => zchk (decide (v2.2.2.2.2 = v1.2.2.2.2)) ((nX11_thrown v2.2).bind fun v3 => if v3 = v1.1 then (if v1.1 = 0 then (if (lg_cmp (v2.2.2.1 72 (0 : Int32).toNatClampNeg) v2.1.toInt64) = 0 then (some v2.2) else (none)) else (some v2.2)) else (none)))
noncomputable def nU_19 (a : Nat → Int32) (g : zS) : Option zS :=
  (nL_within (a 1) (a 2) g).bind fun v1 => zchk (decide (g.2.2.2 ≤ v1.2.2.2.2)) ((nX11_within (a 1) (a 2) v1.2).bind fun v2 => zchk (decide (v2.2.2.2.2 = v1.2.2.2.2)) (some v2.2))
set_option maxHeartbeats 1000000 in
theorem tS_19 {x : zXx} {i : Int32} {a : Nat → Int32} (hl0 : (zl0 x).flags = flags0) (hG : zG x cL_law 7 RL ret) (hPx : zPx x.2.2.2.2.1) (hS : zScr x i a) {A0 B0 C : Nat} (g : zS) {r : zS} (h : nU_19 a g = some r) (kf : zgr r C ∧ zK x 66 1939 [(0, .ref 950), (1, .ref 0), (2, .ref 42), (3, .ref 72), (4, .int i)] [] zD r (A0 + (C / 64 - r.2.2.2 / 64)) (B0 + 2 * (C - r.2.2.2))) : zgr g C ∧ zK x 66 869 [(0, .ref 950), (1, .ref 0), (2, .ref 42), (3, .ref 72), (4, .int i)] [] zD g (A0 + 2 + (C / 64 - g.2.2.2 / 64)) (B0 + 12 + 2 * (C - g.2.2.2)) := by
  unfold nU_19 at h
  refine And.imp_right (fun kk => z_aload_n (pc := 869) hG 1 rfl rfl dL_law_869 kk) ?_
  refine And.imp_right (fun kk => z_aload_n (pc := 870) hG 0 rfl rfl dL_law_870 kk) ?_
  refine And.imp_right (fun kk => z_iload (pc := 871) hG 4 rfl dL_law_871 kk) ?_
  refine And.imp_right (fun kk => z_iconst (pc := 873) hG kc_1 dL_law_873 kk) ?_
  refine And.imp_right (fun kk => z_iadd (pc := 874) hG dL_law_874 kk) ?_
  refine And.imp_right (fun kk => z_scr (pc := 875) hG hS 1 (by decide) rfl dL_law_875 kk) ?_
  refine And.imp_right (fun kk => z_aload_n (pc := 876) hG 0 rfl rfl dL_law_876 kk) ?_
  refine And.imp_right (fun kk => z_iload (pc := 877) hG 4 rfl dL_law_877 kk) ?_
  refine And.imp_right (fun kk => z_iconst (pc := 879) hG kc_2 dL_law_879 kk) ?_
  refine And.imp_right (fun kk => z_iadd (pc := 880) hG dL_law_880 kk) ?_
  refine And.imp_right (fun kk => z_scr (pc := 881) hG hS 2 (by decide) rfl dL_law_881 kk) ?_
  refine And.imp_right (fun kk => z_aload_n (pc := 882) hG 3 rfl rfl dL_law_882 kk) ?_
  replace h := zbind h
  obtain ⟨v1, hv1, h⟩ := h
  replace h := zchk_some h
  obtain ⟨hqv1, h⟩ := h
  replace hqv1 := of_decide_eq_true hqv1
  refine And.elim (fun hb kk => ⟨Nat.le_trans hqv1 hb, z_csH (A' := A0 + (C / 64 - v1.2.2.2.2 / 64)) (B' := B0 + 2 * (C - v1.2.2.2.2)) (rest := []) hG hPx [.ref 0, .int (a 1), .int (a 2), .ref 72] (tL_within hl0 (a 1) (a 2) g hv1) zyH_within w1050 w1049 dL_law_883 rfl (Nat.le_of_ble_eq_true rfl) (by have hb : v1.2.2.2.2 ≤ C := hb; omega) (by have hb : v1.2.2.2.2 ≤ C := hb; omega) rfl (Nat.le_of_ble_eq_true rfl) rfl kk⟩) ?_
  refine And.imp_right (fun kk => z_istore (pc := 886) (ls' := [(5, .int v1.1), (0, .ref 950), (1, .ref 0), (2, .ref 42), (3, .ref 72), (4, .int i)]) hG [0, 1, 2, 3, 4, 5] (by decide) rfl dL_law_886 kk) ?_
  refine And.imp_right (fun kk => z_aload_n (pc := 888) hG 3 rfl rfl dL_law_888 kk) ?_
  refine And.imp_right (fun kk => z_aload_n (pc := 889) hG 1 rfl rfl dL_law_889 kk) ?_
  refine And.imp_right (fun kk => z_iload (pc := 890) hG 5 rfl dL_law_890 kk) ?_
  refine And.imp_right (fun kk => z_iconst (pc := 892) hG kc_1 dL_law_892 kk) ?_
  refine And.imp_right (fun kk => z_iadd (pc := 893) hG dL_law_893 kk) ?_
  refine And.imp_right (fun kk => z_scr (pc := 894) hG hS 1 (by decide) rfl dL_law_894 kk) ?_
  refine And.imp_right (fun kk => z_aload_n (pc := 895) hG 1 rfl rfl dL_law_895 kk) ?_
  refine And.imp_right (fun kk => z_iload (pc := 896) hG 5 rfl dL_law_896 kk) ?_
  refine And.imp_right (fun kk => z_iconst (pc := 898) hG kc_2 dL_law_898 kk) ?_
  refine And.imp_right (fun kk => z_iadd (pc := 899) hG dL_law_899 kk) ?_
  refine And.imp_right (fun kk => z_scr (pc := 900) hG hS 2 (by decide) rfl dL_law_900 kk) ?_
  replace h := zbind h
  obtain ⟨v2, hv2, h⟩ := h
  replace h := zchk_some h
  obtain ⟨hqv2, h⟩ := h
  refine And.imp_right (fun kk => z_cvI (A' := A0 + (C / 64 - v1.2.2.2.2 / 64)) (B' := B0 + 2 * (C - v1.2.2.2.2)) (nc := 0) (ns := 0) (rest := []) hG [.int (a 1), .int (a 2)] zc_X11 DL_42 (tX11_within hl0 (a 1) (a 2) v1.2 hv2) zy_X11_within ⟨w1828, w1829⟩ w1827 dL_law_901 rfl (Nat.le_of_ble_eq_true rfl) (by omega) (by omega) rfl (Nat.le_of_ble_eq_true rfl) rfl kk) ?_
  refine zpc (of_decide_eq_true hqv2) ?_
  refine And.imp_right (fun kk => z_istore (pc := 904) (ls' := [(6, .int v2.1), (5, .int v1.1), (0, .ref 950), (1, .ref 0), (2, .ref 42), (3, .ref 72), (4, .int i)]) hG [0, 1, 2, 3, 4, 5, 6] (by decide) rfl dL_law_904 kk) ?_
  refine And.imp_right (fun kk => z_goto (pc := 906) (tgt := 1939) hG dL_law_906 rfl kk) ?_
  obtain rfl := Option.some.inj h
  refine And.imp_right (fun kk => z_sub (ls' := [(0, .ref 950), (1, .ref 0), (2, .ref 42), (3, .ref 72), (4, .int i)]) [2, 3, 4, 5, 6] rfl kk) ?_
  exact kf
noncomputable def nS_20 (a : Nat → Int32) (g : zS) : Option zS :=
  (nL_may (a 1) (a 2) g).bind fun v1 => zchk (decide (v1.2.2.2.2 = g.2.2.2)) ((nX11_may (a 1) (a 2) v1.2).bind fun v2 => zchk (decide (v2.2.2.2.2 = v1.2.2.2.2)) ((nX11_thrown v2.2).bind fun v3 => if v3 = v1.1 then (if v1.1 = 0 then (if (lg_cmp (v2.2.2.1 72 (0 : Int32).toNatClampNeg) v2.1.toInt64) = 0 then (some v2.2) else (none)) else (some v2.2)) else (none)))
noncomputable def nU_20 (a : Nat → Int32) (g : zS) : Option zS :=
  (nL_may (a 1) (a 2) g).bind fun v1 => zchk (decide (v1.2.2.2.2 = g.2.2.2)) ((nX11_may (a 1) (a 2) v1.2).bind fun v2 => zchk (decide (v2.2.2.2.2 = v1.2.2.2.2)) (some v2.2))
set_option maxHeartbeats 1000000 in
theorem tS_20 {x : zXx} {i : Int32} {a : Nat → Int32} (hl0 : (zl0 x).flags = flags0) (hG : zG x cL_law 7 RL ret) (hPx : zPx x.2.2.2.2.1) (hS : zScr x i a) {A0 B0 C : Nat} (g : zS) {r : zS} (h : nU_20 a g = some r) (kf : zgr r C ∧ zK x 66 1939 [(0, .ref 950), (1, .ref 0), (2, .ref 42), (3, .ref 72), (4, .int i)] [] zD r (A0 + (C / 64 - r.2.2.2 / 64)) (B0 + 2 * (C - r.2.2.2))) : zgr g C ∧ zK x 66 909 [(0, .ref 950), (1, .ref 0), (2, .ref 42), (3, .ref 72), (4, .int i)] [] zD g (A0 + 3 + (C / 64 - g.2.2.2 / 64)) (B0 + 18 + 2 * (C - g.2.2.2)) := by
  unfold nU_20 at h
  refine And.imp_right (fun kk => z_aload_n (pc := 909) hG 1 rfl rfl dL_law_909 kk) ?_
  refine And.imp_right (fun kk => z_aload_n (pc := 910) hG 0 rfl rfl dL_law_910 kk) ?_
  refine And.imp_right (fun kk => z_iload (pc := 911) hG 4 rfl dL_law_911 kk) ?_
  refine And.imp_right (fun kk => z_iconst (pc := 913) hG kc_1 dL_law_913 kk) ?_
  refine And.imp_right (fun kk => z_iadd (pc := 914) hG dL_law_914 kk) ?_
  refine And.imp_right (fun kk => z_scr (pc := 915) hG hS 1 (by decide) rfl dL_law_915 kk) ?_
  refine And.imp_right (fun kk => z_aload_n (pc := 916) hG 0 rfl rfl dL_law_916 kk) ?_
  refine And.imp_right (fun kk => z_iload (pc := 917) hG 4 rfl dL_law_917 kk) ?_
  refine And.imp_right (fun kk => z_iconst (pc := 919) hG kc_2 dL_law_919 kk) ?_
  refine And.imp_right (fun kk => z_iadd (pc := 920) hG dL_law_920 kk) ?_
  refine And.imp_right (fun kk => z_scr (pc := 921) hG hS 2 (by decide) rfl dL_law_921 kk) ?_
  refine And.imp_right (fun kk => z_aload_n (pc := 922) hG 3 rfl rfl dL_law_922 kk) ?_
  replace h := zbind h
  obtain ⟨v1, hv1, h⟩ := h
  replace h := zchk_some h
  obtain ⟨hqv1, h⟩ := h
  refine And.imp_right (fun kk => z_csH (A' := A0 + (C / 64 - g.2.2.2 / 64)) (B' := B0 + 2 * (C - g.2.2.2)) (rest := []) hG hPx [.ref 0, .int (a 1), .int (a 2), .ref 72] (tL_may hl0 (a 1) (a 2) g hv1) zyH_may w1072 w1071 dL_law_923 rfl (Nat.le_of_ble_eq_true rfl) (by omega) (by omega) rfl (Nat.le_of_ble_eq_true rfl) rfl kk) ?_
  refine zpc (of_decide_eq_true hqv1) ?_
  refine And.imp_right (fun kk => z_istore (pc := 926) (ls' := [(5, .int v1.1), (0, .ref 950), (1, .ref 0), (2, .ref 42), (3, .ref 72), (4, .int i)]) hG [0, 1, 2, 3, 4, 5] (by decide) rfl dL_law_926 kk) ?_
  refine And.imp_right (fun kk => z_aload_n (pc := 928) hG 3 rfl rfl dL_law_928 kk) ?_
  refine And.imp_right (fun kk => z_aload_n (pc := 929) hG 1 rfl rfl dL_law_929 kk) ?_
  refine And.imp_right (fun kk => z_iload (pc := 930) hG 5 rfl dL_law_930 kk) ?_
  refine And.imp_right (fun kk => z_iconst (pc := 932) hG kc_1 dL_law_932 kk) ?_
  refine And.imp_right (fun kk => z_iadd (pc := 933) hG dL_law_933 kk) ?_
  refine And.imp_right (fun kk => z_scr (pc := 934) hG hS 1 (by decide) rfl dL_law_934 kk) ?_
  refine And.imp_right (fun kk => z_aload_n (pc := 935) hG 1 rfl rfl dL_law_935 kk) ?_
  refine And.imp_right (fun kk => z_iload (pc := 936) hG 5 rfl dL_law_936 kk) ?_
  refine And.imp_right (fun kk => z_iconst (pc := 938) hG kc_2 dL_law_938 kk) ?_
  refine And.imp_right (fun kk => z_iadd (pc := 939) hG dL_law_939 kk) ?_
  refine And.imp_right (fun kk => z_scr (pc := 940) hG hS 2 (by decide) rfl dL_law_940 kk) ?_
  replace h := zbind h
  obtain ⟨v2, hv2, h⟩ := h
  replace h := zchk_some h
  obtain ⟨hqv2, h⟩ := h
  refine And.imp_right (fun kk => z_cvI (A' := A0 + (C / 64 - v1.2.2.2.2 / 64)) (B' := B0 + 2 * (C - v1.2.2.2.2)) (nc := 0) (ns := 0) (rest := []) hG [.int (a 1), .int (a 2)] zc_X11 DL_42 (tX11_may hl0 (a 1) (a 2) v1.2 hv2) zy_X11_may ⟨w1840, w1841⟩ w1839 dL_law_941 rfl (Nat.le_of_ble_eq_true rfl) (by omega) (by omega) rfl (Nat.le_of_ble_eq_true rfl) rfl kk) ?_
  refine zpc (of_decide_eq_true hqv2) ?_
  refine And.imp_right (fun kk => z_istore (pc := 944) (ls' := [(6, .int v2.1), (5, .int v1.1), (0, .ref 950), (1, .ref 0), (2, .ref 42), (3, .ref 72), (4, .int i)]) hG [0, 1, 2, 3, 4, 5, 6] (by decide) rfl dL_law_944 kk) ?_
  refine And.imp_right (fun kk => z_goto (pc := 946) (tgt := 1939) hG dL_law_946 rfl kk) ?_
  obtain rfl := Option.some.inj h
  refine And.imp_right (fun kk => z_sub (ls' := [(0, .ref 950), (1, .ref 0), (2, .ref 42), (3, .ref 72), (4, .int i)]) [2, 3, 4, 5, 6] rfl kk) ?_
  exact kf
noncomputable def nS_21 (a : Nat → Int32) (g : zS) : Option zS :=
  (nL_likely (a 1) (a 2) g).bind fun v1 => zchk (decide (v1.2.2.2.2 = g.2.2.2)) ((nX11_likely (a 1) (a 2) v1.2).bind fun v2 => zchk (decide (v2.2.2.2.2 = v1.2.2.2.2)) ((nX11_thrown v2.2).bind fun v3 => if v3 = v1.1 then (if v1.1 = 0 then (if (lg_cmp (v2.2.2.1 72 (0 : Int32).toNatClampNeg) v2.1.toInt64) = 0 then (some v2.2) else (none)) else (some v2.2)) else (none)))
noncomputable def nU_21 (a : Nat → Int32) (g : zS) : Option zS :=
  (nL_likely (a 1) (a 2) g).bind fun v1 => zchk (decide (v1.2.2.2.2 = g.2.2.2)) ((nX11_likely (a 1) (a 2) v1.2).bind fun v2 => zchk (decide (v2.2.2.2.2 = v1.2.2.2.2)) (some v2.2))
set_option maxHeartbeats 1000000 in
theorem tS_21 {x : zXx} {i : Int32} {a : Nat → Int32} (hl0 : (zl0 x).flags = flags0) (hG : zG x cL_law 7 RL ret) (hPx : zPx x.2.2.2.2.1) (hS : zScr x i a) {A0 B0 C : Nat} (g : zS) {r : zS} (h : nU_21 a g = some r) (kf : zgr r C ∧ zK x 66 1939 [(0, .ref 950), (1, .ref 0), (2, .ref 42), (3, .ref 72), (4, .int i)] [] zD r (A0 + (C / 64 - r.2.2.2 / 64)) (B0 + 2 * (C - r.2.2.2))) : zgr g C ∧ zK x 66 949 [(0, .ref 950), (1, .ref 0), (2, .ref 42), (3, .ref 72), (4, .int i)] [] zD g (A0 + 3 + (C / 64 - g.2.2.2 / 64)) (B0 + 18 + 2 * (C - g.2.2.2)) := by
  unfold nU_21 at h
  refine And.imp_right (fun kk => z_aload_n (pc := 949) hG 1 rfl rfl dL_law_949 kk) ?_
  refine And.imp_right (fun kk => z_aload_n (pc := 950) hG 0 rfl rfl dL_law_950 kk) ?_
  refine And.imp_right (fun kk => z_iload (pc := 951) hG 4 rfl dL_law_951 kk) ?_
  refine And.imp_right (fun kk => z_iconst (pc := 953) hG kc_1 dL_law_953 kk) ?_
  refine And.imp_right (fun kk => z_iadd (pc := 954) hG dL_law_954 kk) ?_
  refine And.imp_right (fun kk => z_scr (pc := 955) hG hS 1 (by decide) rfl dL_law_955 kk) ?_
  refine And.imp_right (fun kk => z_aload_n (pc := 956) hG 0 rfl rfl dL_law_956 kk) ?_
  refine And.imp_right (fun kk => z_iload (pc := 957) hG 4 rfl dL_law_957 kk) ?_
  refine And.imp_right (fun kk => z_iconst (pc := 959) hG kc_2 dL_law_959 kk) ?_
  refine And.imp_right (fun kk => z_iadd (pc := 960) hG dL_law_960 kk) ?_
  refine And.imp_right (fun kk => z_scr (pc := 961) hG hS 2 (by decide) rfl dL_law_961 kk) ?_
  refine And.imp_right (fun kk => z_aload_n (pc := 962) hG 3 rfl rfl dL_law_962 kk) ?_
  replace h := zbind h
  obtain ⟨v1, hv1, h⟩ := h
  replace h := zchk_some h
  obtain ⟨hqv1, h⟩ := h
  refine And.imp_right (fun kk => z_csH (A' := A0 + (C / 64 - g.2.2.2 / 64)) (B' := B0 + 2 * (C - g.2.2.2)) (rest := []) hG hPx [.ref 0, .int (a 1), .int (a 2), .ref 72] (tL_likely hl0 (a 1) (a 2) g hv1) zyH_likely w1087 w1086 dL_law_963 rfl (Nat.le_of_ble_eq_true rfl) (by omega) (by omega) rfl (Nat.le_of_ble_eq_true rfl) rfl kk) ?_
  refine zpc (of_decide_eq_true hqv1) ?_
  refine And.imp_right (fun kk => z_istore (pc := 966) (ls' := [(5, .int v1.1), (0, .ref 950), (1, .ref 0), (2, .ref 42), (3, .ref 72), (4, .int i)]) hG [0, 1, 2, 3, 4, 5] (by decide) rfl dL_law_966 kk) ?_
  refine And.imp_right (fun kk => z_aload_n (pc := 968) hG 3 rfl rfl dL_law_968 kk) ?_
  refine And.imp_right (fun kk => z_aload_n (pc := 969) hG 1 rfl rfl dL_law_969 kk) ?_
  refine And.imp_right (fun kk => z_iload (pc := 970) hG 5 rfl dL_law_970 kk) ?_
  refine And.imp_right (fun kk => z_iconst (pc := 972) hG kc_1 dL_law_972 kk) ?_
  refine And.imp_right (fun kk => z_iadd (pc := 973) hG dL_law_973 kk) ?_
  refine And.imp_right (fun kk => z_scr (pc := 974) hG hS 1 (by decide) rfl dL_law_974 kk) ?_
  refine And.imp_right (fun kk => z_aload_n (pc := 975) hG 1 rfl rfl dL_law_975 kk) ?_
  refine And.imp_right (fun kk => z_iload (pc := 976) hG 5 rfl dL_law_976 kk) ?_
  refine And.imp_right (fun kk => z_iconst (pc := 978) hG kc_2 dL_law_978 kk) ?_
  refine And.imp_right (fun kk => z_iadd (pc := 979) hG dL_law_979 kk) ?_
  refine And.imp_right (fun kk => z_scr (pc := 980) hG hS 2 (by decide) rfl dL_law_980 kk) ?_
  replace h := zbind h
  obtain ⟨v2, hv2, h⟩ := h
  replace h := zchk_some h
  obtain ⟨hqv2, h⟩ := h
  refine And.imp_right (fun kk => z_cvI (A' := A0 + (C / 64 - v1.2.2.2.2 / 64)) (B' := B0 + 2 * (C - v1.2.2.2.2)) (nc := 0) (ns := 0) (rest := []) hG [.int (a 1), .int (a 2)] zc_X11 DL_42 (tX11_likely hl0 (a 1) (a 2) v1.2 hv2) zy_X11_likely ⟨w1852, w1853⟩ w1851 dL_law_981 rfl (Nat.le_of_ble_eq_true rfl) (by omega) (by omega) rfl (Nat.le_of_ble_eq_true rfl) rfl kk) ?_
  refine zpc (of_decide_eq_true hqv2) ?_
  refine And.imp_right (fun kk => z_istore (pc := 984) (ls' := [(6, .int v2.1), (5, .int v1.1), (0, .ref 950), (1, .ref 0), (2, .ref 42), (3, .ref 72), (4, .int i)]) hG [0, 1, 2, 3, 4, 5, 6] (by decide) rfl dL_law_984 kk) ?_
  refine And.imp_right (fun kk => z_goto (pc := 986) (tgt := 1939) hG dL_law_986 rfl kk) ?_
  obtain rfl := Option.some.inj h
  refine And.imp_right (fun kk => z_sub (ls' := [(0, .ref 950), (1, .ref 0), (2, .ref 42), (3, .ref 72), (4, .int i)]) [2, 3, 4, 5, 6] rfl kk) ?_
  exact kf
noncomputable def nS_22 (a : Nat → Int32) (g : zS) : Option zS :=
  (nL_blame (a 1) g).bind fun v1 => zchk (decide (g.2.2.2 ≤ v1.2.2.2.2)) ((nX11_blame (a 1) v1.2).bind fun v2 => zchk (decide (v2.2.2.2.2 = v1.2.2.2.2)) ((nX11_thrown v2.2).bind fun v3 => if v3 = v1.1 then (if v1.1 = 0 then (if (lg_cmp (v2.2.2.1 72 (0 : Int32).toNatClampNeg) v2.1.toInt64) = 0 then (some v2.2) else (none)) else (some v2.2)) else (none)))
noncomputable def nU_22 (a : Nat → Int32) (g : zS) : Option zS :=
  (nL_blame (a 1) g).bind fun v1 => zchk (decide (g.2.2.2 ≤ v1.2.2.2.2)) ((nX11_blame (a 1) v1.2).bind fun v2 => zchk (decide (v2.2.2.2.2 = v1.2.2.2.2)) (some v2.2))
set_option maxHeartbeats 1000000 in
theorem tS_22 {x : zXx} {i : Int32} {a : Nat → Int32} (hl0 : (zl0 x).flags = flags0) (hG : zG x cL_law 7 RL ret) (hPx : zPx x.2.2.2.2.1) (hS : zScr x i a) {A0 B0 C : Nat} (g : zS) {r : zS} (h : nU_22 a g = some r) (kf : zgr r C ∧ zK x 66 1939 [(0, .ref 950), (1, .ref 0), (2, .ref 42), (3, .ref 72), (4, .int i)] [] zD r (A0 + (C / 64 - r.2.2.2 / 64)) (B0 + 2 * (C - r.2.2.2))) : zgr g C ∧ zK x 66 989 [(0, .ref 950), (1, .ref 0), (2, .ref 42), (3, .ref 72), (4, .int i)] [] zD g (A0 + 2 + (C / 64 - g.2.2.2 / 64)) (B0 + 12 + 2 * (C - g.2.2.2)) := by
  unfold nU_22 at h
  refine And.imp_right (fun kk => z_aload_n (pc := 989) hG 1 rfl rfl dL_law_989 kk) ?_
  refine And.imp_right (fun kk => z_aload_n (pc := 990) hG 0 rfl rfl dL_law_990 kk) ?_
  refine And.imp_right (fun kk => z_iload (pc := 991) hG 4 rfl dL_law_991 kk) ?_
  refine And.imp_right (fun kk => z_iconst (pc := 993) hG kc_1 dL_law_993 kk) ?_
  refine And.imp_right (fun kk => z_iadd (pc := 994) hG dL_law_994 kk) ?_
  refine And.imp_right (fun kk => z_scr (pc := 995) hG hS 1 (by decide) rfl dL_law_995 kk) ?_
  refine And.imp_right (fun kk => z_aload_n (pc := 996) hG 3 rfl rfl dL_law_996 kk) ?_
  replace h := zbind h
  obtain ⟨v1, hv1, h⟩ := h
  replace h := zchk_some h
  obtain ⟨hqv1, h⟩ := h
  replace hqv1 := of_decide_eq_true hqv1
  refine And.elim (fun hb kk => ⟨Nat.le_trans hqv1 hb, z_csH (A' := A0 + (C / 64 - v1.2.2.2.2 / 64)) (B' := B0 + 2 * (C - v1.2.2.2.2)) (rest := []) hG hPx [.ref 0, .int (a 1), .ref 72] (tL_blame hl0 (a 1) g hv1) zyH_blame w1112 w1111 dL_law_997 rfl (Nat.le_of_ble_eq_true rfl) (by have hb : v1.2.2.2.2 ≤ C := hb; omega) (by have hb : v1.2.2.2.2 ≤ C := hb; omega) rfl (Nat.le_of_ble_eq_true rfl) rfl kk⟩) ?_
  refine And.imp_right (fun kk => z_istore (pc := 1000) (ls' := [(5, .int v1.1), (0, .ref 950), (1, .ref 0), (2, .ref 42), (3, .ref 72), (4, .int i)]) hG [0, 1, 2, 3, 4, 5] (by decide) rfl dL_law_1000 kk) ?_
  refine And.imp_right (fun kk => z_aload_n (pc := 1002) hG 3 rfl rfl dL_law_1002 kk) ?_
  refine And.imp_right (fun kk => z_aload_n (pc := 1003) hG 1 rfl rfl dL_law_1003 kk) ?_
  refine And.imp_right (fun kk => z_iload (pc := 1004) hG 5 rfl dL_law_1004 kk) ?_
  refine And.imp_right (fun kk => z_iconst (pc := 1006) hG kc_1 dL_law_1006 kk) ?_
  refine And.imp_right (fun kk => z_iadd (pc := 1007) hG dL_law_1007 kk) ?_
  refine And.imp_right (fun kk => z_scr (pc := 1008) hG hS 1 (by decide) rfl dL_law_1008 kk) ?_
  replace h := zbind h
  obtain ⟨v2, hv2, h⟩ := h
  replace h := zchk_some h
  obtain ⟨hqv2, h⟩ := h
  refine And.imp_right (fun kk => z_cvI (A' := A0 + (C / 64 - v1.2.2.2.2 / 64)) (B' := B0 + 2 * (C - v1.2.2.2.2)) (nc := 0) (ns := 0) (rest := []) hG [.int (a 1)] zc_X11 DL_42 (tX11_blame hl0 (a 1) v1.2 hv2) zy_X11_blame ⟨w1864, w1865⟩ w1863 dL_law_1009 rfl (Nat.le_of_ble_eq_true rfl) (by omega) (by omega) rfl (Nat.le_of_ble_eq_true rfl) rfl kk) ?_
  refine zpc (of_decide_eq_true hqv2) ?_
  refine And.imp_right (fun kk => z_istore (pc := 1012) (ls' := [(6, .int v2.1), (5, .int v1.1), (0, .ref 950), (1, .ref 0), (2, .ref 42), (3, .ref 72), (4, .int i)]) hG [0, 1, 2, 3, 4, 5, 6] (by decide) rfl dL_law_1012 kk) ?_
  refine And.imp_right (fun kk => z_goto (pc := 1014) (tgt := 1939) hG dL_law_1014 rfl kk) ?_
  obtain rfl := Option.some.inj h
  refine And.imp_right (fun kk => z_sub (ls' := [(0, .ref 950), (1, .ref 0), (2, .ref 42), (3, .ref 72), (4, .int i)]) [2, 3, 4, 5, 6] rfl kk) ?_
  exact kf
noncomputable def nS_23 (a : Nat → Int32) (g : zS) : Option zS :=
  (nL_mends (a 1) (a 2) g).bind fun v1 => zchk (decide (v1.2.2.2.2 = g.2.2.2)) ((nX11_mends (a 1) (a 2) v1.2).bind fun v2 => zchk (decide (v2.2.2.2.2 = v1.2.2.2.2)) ((nX11_thrown v2.2).bind fun v3 => if v3 = v1.1 then (if v1.1 = 0 then (if v2.1 = 0 then (if (lg_cmp (v2.2.2.1 72 (0 : Int32).toNatClampNeg) (0 : Int64)) = 0 then (some v2.2) else (none)) else (if (lg_cmp (v2.2.2.1 72 (0 : Int32).toNatClampNeg) (1 : Int64)) = 0 then (some v2.2) else (none))) else (some v2.2)) else (none)))
noncomputable def nU_23 (a : Nat → Int32) (g : zS) : Option zS :=
  (nL_mends (a 1) (a 2) g).bind fun v1 => zchk (decide (v1.2.2.2.2 = g.2.2.2)) ((nX11_mends (a 1) (a 2) v1.2).bind fun v2 => zchk (decide (v2.2.2.2.2 = v1.2.2.2.2)) (some v2.2))
set_option maxHeartbeats 1000000 in
theorem tS_23 {x : zXx} {i : Int32} {a : Nat → Int32} (hl0 : (zl0 x).flags = flags0) (hG : zG x cL_law 7 RL ret) (hPx : zPx x.2.2.2.2.1) (hS : zScr x i a) {A0 B0 C : Nat} (g : zS) {r : zS} (h : nU_23 a g = some r) (kf : zgr r C ∧ zK x 66 1939 [(0, .ref 950), (1, .ref 0), (2, .ref 42), (3, .ref 72), (4, .int i)] [] zD r (A0 + (C / 64 - r.2.2.2 / 64)) (B0 + 2 * (C - r.2.2.2))) : zgr g C ∧ zK x 66 1017 [(0, .ref 950), (1, .ref 0), (2, .ref 42), (3, .ref 72), (4, .int i)] [] zD g (A0 + 2 + (C / 64 - g.2.2.2 / 64)) (B0 + 12 + 2 * (C - g.2.2.2)) := by
  unfold nU_23 at h
  refine And.imp_right (fun kk => z_aload_n (pc := 1017) hG 1 rfl rfl dL_law_1017 kk) ?_
  refine And.imp_right (fun kk => z_aload_n (pc := 1018) hG 0 rfl rfl dL_law_1018 kk) ?_
  refine And.imp_right (fun kk => z_iload (pc := 1019) hG 4 rfl dL_law_1019 kk) ?_
  refine And.imp_right (fun kk => z_iconst (pc := 1021) hG kc_1 dL_law_1021 kk) ?_
  refine And.imp_right (fun kk => z_iadd (pc := 1022) hG dL_law_1022 kk) ?_
  refine And.imp_right (fun kk => z_scr (pc := 1023) hG hS 1 (by decide) rfl dL_law_1023 kk) ?_
  refine And.imp_right (fun kk => z_aload_n (pc := 1024) hG 0 rfl rfl dL_law_1024 kk) ?_
  refine And.imp_right (fun kk => z_iload (pc := 1025) hG 4 rfl dL_law_1025 kk) ?_
  refine And.imp_right (fun kk => z_iconst (pc := 1027) hG kc_2 dL_law_1027 kk) ?_
  refine And.imp_right (fun kk => z_iadd (pc := 1028) hG dL_law_1028 kk) ?_
  refine And.imp_right (fun kk => z_scr (pc := 1029) hG hS 2 (by decide) rfl dL_law_1029 kk) ?_
  refine And.imp_right (fun kk => z_aload_n (pc := 1030) hG 3 rfl rfl dL_law_1030 kk) ?_
  replace h := zbind h
  obtain ⟨v1, hv1, h⟩ := h
  replace h := zchk_some h
  obtain ⟨hqv1, h⟩ := h
  refine And.imp_right (fun kk => z_csH (A' := A0 + (C / 64 - g.2.2.2 / 64)) (B' := B0 + 2 * (C - g.2.2.2)) (rest := []) hG hPx [.ref 0, .int (a 1), .int (a 2), .ref 72] (tL_mends hl0 (a 1) (a 2) g hv1) zyH_mends w1127 w1126 dL_law_1031 rfl (Nat.le_of_ble_eq_true rfl) (by omega) (by omega) rfl (Nat.le_of_ble_eq_true rfl) rfl kk) ?_
  refine zpc (of_decide_eq_true hqv1) ?_
  refine And.imp_right (fun kk => z_istore (pc := 1034) (ls' := [(5, .int v1.1), (0, .ref 950), (1, .ref 0), (2, .ref 42), (3, .ref 72), (4, .int i)]) hG [0, 1, 2, 3, 4, 5] (by decide) rfl dL_law_1034 kk) ?_
  refine And.imp_right (fun kk => z_aload_n (pc := 1036) hG 3 rfl rfl dL_law_1036 kk) ?_
  refine And.imp_right (fun kk => z_aload_n (pc := 1037) hG 1 rfl rfl dL_law_1037 kk) ?_
  refine And.imp_right (fun kk => z_iload (pc := 1038) hG 5 rfl dL_law_1038 kk) ?_
  refine And.imp_right (fun kk => z_iconst (pc := 1040) hG kc_1 dL_law_1040 kk) ?_
  refine And.imp_right (fun kk => z_iadd (pc := 1041) hG dL_law_1041 kk) ?_
  refine And.imp_right (fun kk => z_scr (pc := 1042) hG hS 1 (by decide) rfl dL_law_1042 kk) ?_
  refine And.imp_right (fun kk => z_aload_n (pc := 1043) hG 1 rfl rfl dL_law_1043 kk) ?_
  refine And.imp_right (fun kk => z_iload (pc := 1044) hG 5 rfl dL_law_1044 kk) ?_
  refine And.imp_right (fun kk => z_iconst (pc := 1046) hG kc_2 dL_law_1046 kk) ?_
  refine And.imp_right (fun kk => z_iadd (pc := 1047) hG dL_law_1047 kk) ?_
  refine And.imp_right (fun kk => z_scr (pc := 1048) hG hS 2 (by decide) rfl dL_law_1048 kk) ?_
  replace h := zbind h
  obtain ⟨v2, hv2, h⟩ := h
  replace h := zchk_some h
  obtain ⟨hqv2, h⟩ := h
  refine And.imp_right (fun kk => z_cvI (A' := A0 + (C / 64 - v1.2.2.2.2 / 64)) (B' := B0 + 2 * (C - v1.2.2.2.2)) (nc := 0) (ns := 0) (rest := []) hG [.int (a 1), .int (a 2)] zc_X11 DL_42 (tX11_mends hl0 (a 1) (a 2) v1.2 hv2) zy_X11_mends ⟨w1868, w1869⟩ w1867 dL_law_1049 rfl (Nat.le_of_ble_eq_true rfl) (by omega) (by omega) rfl (Nat.le_of_ble_eq_true rfl) rfl kk) ?_
  refine zpc (of_decide_eq_true hqv2) ?_
  refine And.imp_right (fun kk => z_istore (pc := 1052) (ls' := [(6, .int v2.1), (5, .int v1.1), (0, .ref 950), (1, .ref 0), (2, .ref 42), (3, .ref 72), (4, .int i)]) hG [0, 1, 2, 3, 4, 5, 6] (by decide) rfl dL_law_1052 kk) ?_
  refine And.imp_right (fun kk => z_goto (pc := 1054) (tgt := 1939) hG dL_law_1054 rfl kk) ?_
  obtain rfl := Option.some.inj h
  refine And.imp_right (fun kk => z_sub (ls' := [(0, .ref 950), (1, .ref 0), (2, .ref 42), (3, .ref 72), (4, .int i)]) [2, 3, 4, 5, 6] rfl kk) ?_
  exact kf
noncomputable def nS_24 (a : Nat → Int32) (g : zS) : Option zS :=
  (nL_ways (a 1) (a 2) g).bind fun v1 => zchk (decide (v1.2.2.2.2 = g.2.2.2)) ((nX11_ways (a 1) (a 2) v1.2).bind fun v2 => zchk (decide (v2.2.2.2.2 = v1.2.2.2.2)) ((nX11_thrown v2.2).bind fun v3 => if v3 = v1.1 then (if v1.1 = 0 then (if (lg_cmp (v2.2.2.1 72 (0 : Int32).toNatClampNeg) v2.1.toInt64) = 0 then (some v2.2) else (none)) else (some v2.2)) else (none)))
noncomputable def nU_24 (a : Nat → Int32) (g : zS) : Option zS :=
  (nL_ways (a 1) (a 2) g).bind fun v1 => zchk (decide (v1.2.2.2.2 = g.2.2.2)) ((nX11_ways (a 1) (a 2) v1.2).bind fun v2 => zchk (decide (v2.2.2.2.2 = v1.2.2.2.2)) (some v2.2))
set_option maxHeartbeats 1000000 in
theorem tS_24 {x : zXx} {i : Int32} {a : Nat → Int32} (hl0 : (zl0 x).flags = flags0) (hG : zG x cL_law 7 RL ret) (hPx : zPx x.2.2.2.2.1) (hS : zScr x i a) {A0 B0 C : Nat} (g : zS) {r : zS} (h : nU_24 a g = some r) (kf : zgr r C ∧ zK x 66 1939 [(0, .ref 950), (1, .ref 0), (2, .ref 42), (3, .ref 72), (4, .int i)] [] zD r (A0 + (C / 64 - r.2.2.2 / 64)) (B0 + 2 * (C - r.2.2.2))) : zgr g C ∧ zK x 66 1057 [(0, .ref 950), (1, .ref 0), (2, .ref 42), (3, .ref 72), (4, .int i)] [] zD g (A0 + 2 + (C / 64 - g.2.2.2 / 64)) (B0 + 12 + 2 * (C - g.2.2.2)) := by
  unfold nU_24 at h
  refine And.imp_right (fun kk => z_aload_n (pc := 1057) hG 1 rfl rfl dL_law_1057 kk) ?_
  refine And.imp_right (fun kk => z_aload_n (pc := 1058) hG 0 rfl rfl dL_law_1058 kk) ?_
  refine And.imp_right (fun kk => z_iload (pc := 1059) hG 4 rfl dL_law_1059 kk) ?_
  refine And.imp_right (fun kk => z_iconst (pc := 1061) hG kc_1 dL_law_1061 kk) ?_
  refine And.imp_right (fun kk => z_iadd (pc := 1062) hG dL_law_1062 kk) ?_
  refine And.imp_right (fun kk => z_scr (pc := 1063) hG hS 1 (by decide) rfl dL_law_1063 kk) ?_
  refine And.imp_right (fun kk => z_aload_n (pc := 1064) hG 0 rfl rfl dL_law_1064 kk) ?_
  refine And.imp_right (fun kk => z_iload (pc := 1065) hG 4 rfl dL_law_1065 kk) ?_
  refine And.imp_right (fun kk => z_iconst (pc := 1067) hG kc_2 dL_law_1067 kk) ?_
  refine And.imp_right (fun kk => z_iadd (pc := 1068) hG dL_law_1068 kk) ?_
  refine And.imp_right (fun kk => z_scr (pc := 1069) hG hS 2 (by decide) rfl dL_law_1069 kk) ?_
  refine And.imp_right (fun kk => z_aload_n (pc := 1070) hG 3 rfl rfl dL_law_1070 kk) ?_
  replace h := zbind h
  obtain ⟨v1, hv1, h⟩ := h
  replace h := zchk_some h
  obtain ⟨hqv1, h⟩ := h
  refine And.imp_right (fun kk => z_csH (A' := A0 + (C / 64 - g.2.2.2 / 64)) (B' := B0 + 2 * (C - g.2.2.2)) (rest := []) hG hPx [.ref 0, .int (a 1), .int (a 2), .ref 72] (tL_ways hl0 (a 1) (a 2) g hv1) zyH_ways w1139 w1138 dL_law_1071 rfl (Nat.le_of_ble_eq_true rfl) (by omega) (by omega) rfl (Nat.le_of_ble_eq_true rfl) rfl kk) ?_
  refine zpc (of_decide_eq_true hqv1) ?_
  refine And.imp_right (fun kk => z_istore (pc := 1074) (ls' := [(5, .int v1.1), (0, .ref 950), (1, .ref 0), (2, .ref 42), (3, .ref 72), (4, .int i)]) hG [0, 1, 2, 3, 4, 5] (by decide) rfl dL_law_1074 kk) ?_
  refine And.imp_right (fun kk => z_aload_n (pc := 1076) hG 3 rfl rfl dL_law_1076 kk) ?_
  refine And.imp_right (fun kk => z_aload_n (pc := 1077) hG 1 rfl rfl dL_law_1077 kk) ?_
  refine And.imp_right (fun kk => z_iload (pc := 1078) hG 5 rfl dL_law_1078 kk) ?_
  refine And.imp_right (fun kk => z_iconst (pc := 1080) hG kc_1 dL_law_1080 kk) ?_
  refine And.imp_right (fun kk => z_iadd (pc := 1081) hG dL_law_1081 kk) ?_
  refine And.imp_right (fun kk => z_scr (pc := 1082) hG hS 1 (by decide) rfl dL_law_1082 kk) ?_
  refine And.imp_right (fun kk => z_aload_n (pc := 1083) hG 1 rfl rfl dL_law_1083 kk) ?_
  refine And.imp_right (fun kk => z_iload (pc := 1084) hG 5 rfl dL_law_1084 kk) ?_
  refine And.imp_right (fun kk => z_iconst (pc := 1086) hG kc_2 dL_law_1086 kk) ?_
  refine And.imp_right (fun kk => z_iadd (pc := 1087) hG dL_law_1087 kk) ?_
  refine And.imp_right (fun kk => z_scr (pc := 1088) hG hS 2 (by decide) rfl dL_law_1088 kk) ?_
  replace h := zbind h
  obtain ⟨v2, hv2, h⟩ := h
  replace h := zchk_some h
  obtain ⟨hqv2, h⟩ := h
  refine And.imp_right (fun kk => z_cvI (A' := A0 + (C / 64 - v1.2.2.2.2 / 64)) (B' := B0 + 2 * (C - v1.2.2.2.2)) (nc := 0) (ns := 0) (rest := []) hG [.int (a 1), .int (a 2)] zc_X11 DL_42 (tX11_ways hl0 (a 1) (a 2) v1.2 hv2) zy_X11_ways ⟨w1884, w1885⟩ w1883 dL_law_1089 rfl (Nat.le_of_ble_eq_true rfl) (by omega) (by omega) rfl (Nat.le_of_ble_eq_true rfl) rfl kk) ?_
  refine zpc (of_decide_eq_true hqv2) ?_
  refine And.imp_right (fun kk => z_istore (pc := 1092) (ls' := [(6, .int v2.1), (5, .int v1.1), (0, .ref 950), (1, .ref 0), (2, .ref 42), (3, .ref 72), (4, .int i)]) hG [0, 1, 2, 3, 4, 5, 6] (by decide) rfl dL_law_1092 kk) ?_
  refine And.imp_right (fun kk => z_goto (pc := 1094) (tgt := 1939) hG dL_law_1094 rfl kk) ?_
  obtain rfl := Option.some.inj h
  refine And.imp_right (fun kk => z_sub (ls' := [(0, .ref 950), (1, .ref 0), (2, .ref 42), (3, .ref 72), (4, .int i)]) [2, 3, 4, 5, 6] rfl kk) ?_
  exact kf
noncomputable def nS_25 (a : Nat → Int32) (g : zS) : Option zS :=
  (nL_least (a 1) (a 2) g).bind fun v1 => zchk (decide (v1.2.2.2.2 = g.2.2.2)) ((nX11_least (a 1) (a 2) v1.2).bind fun v2 => zchk (decide (v2.2.2.2.2 = v1.2.2.2.2)) ((nX11_thrown v2.2).bind fun v3 => if v3 = v1.1 then (if v1.1 = 0 then (if (lg_cmp (v2.2.2.1 72 (0 : Int32).toNatClampNeg) v2.1.toInt64) = 0 then (some v2.2) else (none)) else (some v2.2)) else (none)))
noncomputable def nU_25 (a : Nat → Int32) (g : zS) : Option zS :=
  (nL_least (a 1) (a 2) g).bind fun v1 => zchk (decide (v1.2.2.2.2 = g.2.2.2)) ((nX11_least (a 1) (a 2) v1.2).bind fun v2 => zchk (decide (v2.2.2.2.2 = v1.2.2.2.2)) (some v2.2))
set_option maxHeartbeats 1000000 in
theorem tS_25 {x : zXx} {i : Int32} {a : Nat → Int32} (hl0 : (zl0 x).flags = flags0) (hG : zG x cL_law 7 RL ret) (hPx : zPx x.2.2.2.2.1) (hS : zScr x i a) {A0 B0 C : Nat} (g : zS) {r : zS} (h : nU_25 a g = some r) (kf : zgr r C ∧ zK x 66 1939 [(0, .ref 950), (1, .ref 0), (2, .ref 42), (3, .ref 72), (4, .int i)] [] zD r (A0 + (C / 64 - r.2.2.2 / 64)) (B0 + 2 * (C - r.2.2.2))) : zgr g C ∧ zK x 66 1097 [(0, .ref 950), (1, .ref 0), (2, .ref 42), (3, .ref 72), (4, .int i)] [] zD g (A0 + 2 + (C / 64 - g.2.2.2 / 64)) (B0 + 12 + 2 * (C - g.2.2.2)) := by
  unfold nU_25 at h
  refine And.imp_right (fun kk => z_aload_n (pc := 1097) hG 1 rfl rfl dL_law_1097 kk) ?_
  refine And.imp_right (fun kk => z_aload_n (pc := 1098) hG 0 rfl rfl dL_law_1098 kk) ?_
  refine And.imp_right (fun kk => z_iload (pc := 1099) hG 4 rfl dL_law_1099 kk) ?_
  refine And.imp_right (fun kk => z_iconst (pc := 1101) hG kc_1 dL_law_1101 kk) ?_
  refine And.imp_right (fun kk => z_iadd (pc := 1102) hG dL_law_1102 kk) ?_
  refine And.imp_right (fun kk => z_scr (pc := 1103) hG hS 1 (by decide) rfl dL_law_1103 kk) ?_
  refine And.imp_right (fun kk => z_aload_n (pc := 1104) hG 0 rfl rfl dL_law_1104 kk) ?_
  refine And.imp_right (fun kk => z_iload (pc := 1105) hG 4 rfl dL_law_1105 kk) ?_
  refine And.imp_right (fun kk => z_iconst (pc := 1107) hG kc_2 dL_law_1107 kk) ?_
  refine And.imp_right (fun kk => z_iadd (pc := 1108) hG dL_law_1108 kk) ?_
  refine And.imp_right (fun kk => z_scr (pc := 1109) hG hS 2 (by decide) rfl dL_law_1109 kk) ?_
  refine And.imp_right (fun kk => z_aload_n (pc := 1110) hG 3 rfl rfl dL_law_1110 kk) ?_
  replace h := zbind h
  obtain ⟨v1, hv1, h⟩ := h
  replace h := zchk_some h
  obtain ⟨hqv1, h⟩ := h
  refine And.imp_right (fun kk => z_csH (A' := A0 + (C / 64 - g.2.2.2 / 64)) (B' := B0 + 2 * (C - g.2.2.2)) (rest := []) hG hPx [.ref 0, .int (a 1), .int (a 2), .ref 72] (tL_least hl0 (a 1) (a 2) g hv1) zyH_least w1150 w1149 dL_law_1111 rfl (Nat.le_of_ble_eq_true rfl) (by omega) (by omega) rfl (Nat.le_of_ble_eq_true rfl) rfl kk) ?_
  refine zpc (of_decide_eq_true hqv1) ?_
  refine And.imp_right (fun kk => z_istore (pc := 1114) (ls' := [(5, .int v1.1), (0, .ref 950), (1, .ref 0), (2, .ref 42), (3, .ref 72), (4, .int i)]) hG [0, 1, 2, 3, 4, 5] (by decide) rfl dL_law_1114 kk) ?_
  refine And.imp_right (fun kk => z_aload_n (pc := 1116) hG 3 rfl rfl dL_law_1116 kk) ?_
  refine And.imp_right (fun kk => z_aload_n (pc := 1117) hG 1 rfl rfl dL_law_1117 kk) ?_
  refine And.imp_right (fun kk => z_iload (pc := 1118) hG 5 rfl dL_law_1118 kk) ?_
  refine And.imp_right (fun kk => z_iconst (pc := 1120) hG kc_1 dL_law_1120 kk) ?_
  refine And.imp_right (fun kk => z_iadd (pc := 1121) hG dL_law_1121 kk) ?_
  refine And.imp_right (fun kk => z_scr (pc := 1122) hG hS 1 (by decide) rfl dL_law_1122 kk) ?_
  refine And.imp_right (fun kk => z_aload_n (pc := 1123) hG 1 rfl rfl dL_law_1123 kk) ?_
  refine And.imp_right (fun kk => z_iload (pc := 1124) hG 5 rfl dL_law_1124 kk) ?_
  refine And.imp_right (fun kk => z_iconst (pc := 1126) hG kc_2 dL_law_1126 kk) ?_
  refine And.imp_right (fun kk => z_iadd (pc := 1127) hG dL_law_1127 kk) ?_
  refine And.imp_right (fun kk => z_scr (pc := 1128) hG hS 2 (by decide) rfl dL_law_1128 kk) ?_
  replace h := zbind h
  obtain ⟨v2, hv2, h⟩ := h
  replace h := zchk_some h
  obtain ⟨hqv2, h⟩ := h
  refine And.imp_right (fun kk => z_cvI (A' := A0 + (C / 64 - v1.2.2.2.2 / 64)) (B' := B0 + 2 * (C - v1.2.2.2.2)) (nc := 0) (ns := 0) (rest := []) hG [.int (a 1), .int (a 2)] zc_X11 DL_42 (tX11_least hl0 (a 1) (a 2) v1.2 hv2) zy_X11_least ⟨w1888, w1889⟩ w1887 dL_law_1129 rfl (Nat.le_of_ble_eq_true rfl) (by omega) (by omega) rfl (Nat.le_of_ble_eq_true rfl) rfl kk) ?_
  refine zpc (of_decide_eq_true hqv2) ?_
  refine And.imp_right (fun kk => z_istore (pc := 1132) (ls' := [(6, .int v2.1), (5, .int v1.1), (0, .ref 950), (1, .ref 0), (2, .ref 42), (3, .ref 72), (4, .int i)]) hG [0, 1, 2, 3, 4, 5, 6] (by decide) rfl dL_law_1132 kk) ?_
  refine And.imp_right (fun kk => z_goto (pc := 1134) (tgt := 1939) hG dL_law_1134 rfl kk) ?_
  obtain rfl := Option.some.inj h
  refine And.imp_right (fun kk => z_sub (ls' := [(0, .ref 950), (1, .ref 0), (2, .ref 42), (3, .ref 72), (4, .int i)]) [2, 3, 4, 5, 6] rfl kk) ?_
  exact kf
noncomputable def nS_26 (a : Nat → Int32) (g : zS) : Option zS :=
  (nL_leastOf (a 1) (a 2) g).bind fun v1 => zchk (decide (v1.2.2.2.2 = g.2.2.2)) ((nX11_leastOf (a 1) (a 2) v1.2).bind fun v2 => zchk (decide (v2.2.2.2.2 = v1.2.2.2.2)) ((nX11_thrown v2.2).bind fun v3 => if v3 = v1.1 then (if v1.1 = 0 then (if (lg_cmp (v2.2.2.1 72 (0 : Int32).toNatClampNeg) v2.1.toInt64) = 0 then (some v2.2) else (none)) else (some v2.2)) else (none)))
noncomputable def nU_26 (a : Nat → Int32) (g : zS) : Option zS :=
  (nL_leastOf (a 1) (a 2) g).bind fun v1 => zchk (decide (v1.2.2.2.2 = g.2.2.2)) ((nX11_leastOf (a 1) (a 2) v1.2).bind fun v2 => zchk (decide (v2.2.2.2.2 = v1.2.2.2.2)) (some v2.2))
set_option maxHeartbeats 1000000 in
theorem tS_26 {x : zXx} {i : Int32} {a : Nat → Int32} (hl0 : (zl0 x).flags = flags0) (hG : zG x cL_law 7 RL ret) (hPx : zPx x.2.2.2.2.1) (hS : zScr x i a) {A0 B0 C : Nat} (g : zS) {r : zS} (h : nU_26 a g = some r) (kf : zgr r C ∧ zK x 66 1939 [(0, .ref 950), (1, .ref 0), (2, .ref 42), (3, .ref 72), (4, .int i)] [] zD r (A0 + (C / 64 - r.2.2.2 / 64)) (B0 + 2 * (C - r.2.2.2))) : zgr g C ∧ zK x 66 1137 [(0, .ref 950), (1, .ref 0), (2, .ref 42), (3, .ref 72), (4, .int i)] [] zD g (A0 + 1 + (C / 64 - g.2.2.2 / 64)) (B0 + 6 + 2 * (C - g.2.2.2)) := by
  unfold nU_26 at h
  refine And.imp_right (fun kk => z_aload_n (pc := 1137) hG 1 rfl rfl dL_law_1137 kk) ?_
  refine And.imp_right (fun kk => z_aload_n (pc := 1138) hG 0 rfl rfl dL_law_1138 kk) ?_
  refine And.imp_right (fun kk => z_iload (pc := 1139) hG 4 rfl dL_law_1139 kk) ?_
  refine And.imp_right (fun kk => z_iconst (pc := 1141) hG kc_1 dL_law_1141 kk) ?_
  refine And.imp_right (fun kk => z_iadd (pc := 1142) hG dL_law_1142 kk) ?_
  refine And.imp_right (fun kk => z_scr (pc := 1143) hG hS 1 (by decide) rfl dL_law_1143 kk) ?_
  refine And.imp_right (fun kk => z_aload_n (pc := 1144) hG 0 rfl rfl dL_law_1144 kk) ?_
  refine And.imp_right (fun kk => z_iload (pc := 1145) hG 4 rfl dL_law_1145 kk) ?_
  refine And.imp_right (fun kk => z_iconst (pc := 1147) hG kc_2 dL_law_1147 kk) ?_
  refine And.imp_right (fun kk => z_iadd (pc := 1148) hG dL_law_1148 kk) ?_
  refine And.imp_right (fun kk => z_scr (pc := 1149) hG hS 2 (by decide) rfl dL_law_1149 kk) ?_
  refine And.imp_right (fun kk => z_aload_n (pc := 1150) hG 3 rfl rfl dL_law_1150 kk) ?_
  replace h := zbind h
  obtain ⟨v1, hv1, h⟩ := h
  replace h := zchk_some h
  obtain ⟨hqv1, h⟩ := h
  refine And.imp_right (fun kk => z_csH (A' := A0 + (C / 64 - g.2.2.2 / 64)) (B' := B0 + 2 * (C - g.2.2.2)) (rest := []) hG hPx [.ref 0, .int (a 1), .int (a 2), .ref 72] (tL_leastOf hl0 (a 1) (a 2) g hv1) zyH_leastOf w1164 w1163 dL_law_1151 rfl (Nat.le_of_ble_eq_true rfl) (by omega) (by omega) rfl (Nat.le_of_ble_eq_true rfl) rfl kk) ?_
  refine zpc (of_decide_eq_true hqv1) ?_
  refine And.imp_right (fun kk => z_istore (pc := 1154) (ls' := [(5, .int v1.1), (0, .ref 950), (1, .ref 0), (2, .ref 42), (3, .ref 72), (4, .int i)]) hG [0, 1, 2, 3, 4, 5] (by decide) rfl dL_law_1154 kk) ?_
  refine And.imp_right (fun kk => z_aload_n (pc := 1156) hG 3 rfl rfl dL_law_1156 kk) ?_
  refine And.imp_right (fun kk => z_aload_n (pc := 1157) hG 1 rfl rfl dL_law_1157 kk) ?_
  refine And.imp_right (fun kk => z_iload (pc := 1158) hG 5 rfl dL_law_1158 kk) ?_
  refine And.imp_right (fun kk => z_iconst (pc := 1160) hG kc_1 dL_law_1160 kk) ?_
  refine And.imp_right (fun kk => z_iadd (pc := 1161) hG dL_law_1161 kk) ?_
  refine And.imp_right (fun kk => z_scr (pc := 1162) hG hS 1 (by decide) rfl dL_law_1162 kk) ?_
  refine And.imp_right (fun kk => z_aload_n (pc := 1163) hG 1 rfl rfl dL_law_1163 kk) ?_
  refine And.imp_right (fun kk => z_iload (pc := 1164) hG 5 rfl dL_law_1164 kk) ?_
  refine And.imp_right (fun kk => z_iconst (pc := 1166) hG kc_2 dL_law_1166 kk) ?_
  refine And.imp_right (fun kk => z_iadd (pc := 1167) hG dL_law_1167 kk) ?_
  refine And.imp_right (fun kk => z_scr (pc := 1168) hG hS 2 (by decide) rfl dL_law_1168 kk) ?_
  replace h := zbind h
  obtain ⟨v2, hv2, h⟩ := h
  replace h := zchk_some h
  obtain ⟨hqv2, h⟩ := h
  refine And.imp_right (fun kk => z_cvI (A' := A0 + (C / 64 - v1.2.2.2.2 / 64)) (B' := B0 + 2 * (C - v1.2.2.2.2)) (nc := 0) (ns := 0) (rest := []) hG [.int (a 1), .int (a 2)] zc_X11 DL_42 (tX11_leastOf hl0 (a 1) (a 2) v1.2 hv2) zy_X11_leastOf ⟨w1900, w1901⟩ w1899 dL_law_1169 rfl (Nat.le_of_ble_eq_true rfl) (by omega) (by omega) rfl (Nat.le_of_ble_eq_true rfl) rfl kk) ?_
  refine zpc (of_decide_eq_true hqv2) ?_
  refine And.imp_right (fun kk => z_istore (pc := 1172) (ls' := [(6, .int v2.1), (5, .int v1.1), (0, .ref 950), (1, .ref 0), (2, .ref 42), (3, .ref 72), (4, .int i)]) hG [0, 1, 2, 3, 4, 5, 6] (by decide) rfl dL_law_1172 kk) ?_
  refine And.imp_right (fun kk => z_goto (pc := 1174) (tgt := 1939) hG dL_law_1174 rfl kk) ?_
  obtain rfl := Option.some.inj h
  refine And.imp_right (fun kk => z_sub (ls' := [(0, .ref 950), (1, .ref 0), (2, .ref 42), (3, .ref 72), (4, .int i)]) [2, 3, 4, 5, 6] rfl kk) ?_
  exact kf
noncomputable def nS_27 (a : Nat → Int32) (g : zS) : Option zS :=
  (nL_values (a 1) (a 2) (a 3) g).bind fun v1 => zchk (decide (v1.2.2.2.2 = g.2.2.2)) ((nX11_values (a 1) (a 2) (a 3) v1.2).bind fun v2 => zchk (decide (v2.2.2.2.2 = v1.2.2.2.2)) ((nX11_thrown v2.2).bind fun v3 => if v3 = v1.1 then (if v1.1 = 0 then (if (lg_cmp (v2.2.2.1 72 (0 : Int32).toNatClampNeg) v2.1.toInt64) = 0 then (some v2.2) else (none)) else (some v2.2)) else (none)))
noncomputable def nU_27 (a : Nat → Int32) (g : zS) : Option zS :=
  (nL_values (a 1) (a 2) (a 3) g).bind fun v1 => zchk (decide (v1.2.2.2.2 = g.2.2.2)) ((nX11_values (a 1) (a 2) (a 3) v1.2).bind fun v2 => zchk (decide (v2.2.2.2.2 = v1.2.2.2.2)) (some v2.2))
set_option maxHeartbeats 1000000 in
theorem tS_27 {x : zXx} {i : Int32} {a : Nat → Int32} (hl0 : (zl0 x).flags = flags0) (hG : zG x cL_law 7 RL ret) (hPx : zPx x.2.2.2.2.1) (hS : zScr x i a) {A0 B0 C : Nat} (g : zS) {r : zS} (h : nU_27 a g = some r) (kf : zgr r C ∧ zK x 66 1939 [(0, .ref 950), (1, .ref 0), (2, .ref 42), (3, .ref 72), (4, .int i)] [] zD r (A0 + (C / 64 - r.2.2.2 / 64)) (B0 + 2 * (C - r.2.2.2))) : zgr g C ∧ zK x 66 1177 [(0, .ref 950), (1, .ref 0), (2, .ref 42), (3, .ref 72), (4, .int i)] [] zD g (A0 + 3 + (C / 64 - g.2.2.2 / 64)) (B0 + 18 + 2 * (C - g.2.2.2)) := by
  unfold nU_27 at h
  refine And.imp_right (fun kk => z_aload_n (pc := 1177) hG 1 rfl rfl dL_law_1177 kk) ?_
  refine And.imp_right (fun kk => z_aload_n (pc := 1178) hG 0 rfl rfl dL_law_1178 kk) ?_
  refine And.imp_right (fun kk => z_iload (pc := 1179) hG 4 rfl dL_law_1179 kk) ?_
  refine And.imp_right (fun kk => z_iconst (pc := 1181) hG kc_1 dL_law_1181 kk) ?_
  refine And.imp_right (fun kk => z_iadd (pc := 1182) hG dL_law_1182 kk) ?_
  refine And.imp_right (fun kk => z_scr (pc := 1183) hG hS 1 (by decide) rfl dL_law_1183 kk) ?_
  refine And.imp_right (fun kk => z_aload_n (pc := 1184) hG 0 rfl rfl dL_law_1184 kk) ?_
  refine And.imp_right (fun kk => z_iload (pc := 1185) hG 4 rfl dL_law_1185 kk) ?_
  refine And.imp_right (fun kk => z_iconst (pc := 1187) hG kc_2 dL_law_1187 kk) ?_
  refine And.imp_right (fun kk => z_iadd (pc := 1188) hG dL_law_1188 kk) ?_
  refine And.imp_right (fun kk => z_scr (pc := 1189) hG hS 2 (by decide) rfl dL_law_1189 kk) ?_
  refine And.imp_right (fun kk => z_aload_n (pc := 1190) hG 0 rfl rfl dL_law_1190 kk) ?_
  refine And.imp_right (fun kk => z_iload (pc := 1191) hG 4 rfl dL_law_1191 kk) ?_
  refine And.imp_right (fun kk => z_iconst (pc := 1193) hG kc_3 dL_law_1193 kk) ?_
  refine And.imp_right (fun kk => z_iadd (pc := 1194) hG dL_law_1194 kk) ?_
  refine And.imp_right (fun kk => z_scr (pc := 1195) hG hS 3 (by decide) rfl dL_law_1195 kk) ?_
  refine And.imp_right (fun kk => z_aload_n (pc := 1196) hG 3 rfl rfl dL_law_1196 kk) ?_
  replace h := zbind h
  obtain ⟨v1, hv1, h⟩ := h
  replace h := zchk_some h
  obtain ⟨hqv1, h⟩ := h
  refine And.imp_right (fun kk => z_csH (A' := A0 + (C / 64 - g.2.2.2 / 64)) (B' := B0 + 2 * (C - g.2.2.2)) (rest := []) hG hPx [.ref 0, .int (a 1), .int (a 2), .int (a 3), .ref 72] (tL_values hl0 (a 1) (a 2) (a 3) g hv1) zyH_values w1175 w1174 dL_law_1197 rfl (Nat.le_of_ble_eq_true rfl) (by omega) (by omega) rfl (Nat.le_of_ble_eq_true rfl) rfl kk) ?_
  refine zpc (of_decide_eq_true hqv1) ?_
  refine And.imp_right (fun kk => z_istore (pc := 1200) (ls' := [(5, .int v1.1), (0, .ref 950), (1, .ref 0), (2, .ref 42), (3, .ref 72), (4, .int i)]) hG [0, 1, 2, 3, 4, 5] (by decide) rfl dL_law_1200 kk) ?_
  refine And.imp_right (fun kk => z_aload_n (pc := 1202) hG 3 rfl rfl dL_law_1202 kk) ?_
  refine And.imp_right (fun kk => z_aload_n (pc := 1203) hG 1 rfl rfl dL_law_1203 kk) ?_
  refine And.imp_right (fun kk => z_iload (pc := 1204) hG 5 rfl dL_law_1204 kk) ?_
  refine And.imp_right (fun kk => z_iconst (pc := 1206) hG kc_1 dL_law_1206 kk) ?_
  refine And.imp_right (fun kk => z_iadd (pc := 1207) hG dL_law_1207 kk) ?_
  refine And.imp_right (fun kk => z_scr (pc := 1208) hG hS 1 (by decide) rfl dL_law_1208 kk) ?_
  refine And.imp_right (fun kk => z_aload_n (pc := 1209) hG 1 rfl rfl dL_law_1209 kk) ?_
  refine And.imp_right (fun kk => z_iload (pc := 1210) hG 5 rfl dL_law_1210 kk) ?_
  refine And.imp_right (fun kk => z_iconst (pc := 1212) hG kc_2 dL_law_1212 kk) ?_
  refine And.imp_right (fun kk => z_iadd (pc := 1213) hG dL_law_1213 kk) ?_
  refine And.imp_right (fun kk => z_scr (pc := 1214) hG hS 2 (by decide) rfl dL_law_1214 kk) ?_
  refine And.imp_right (fun kk => z_aload_n (pc := 1215) hG 1 rfl rfl dL_law_1215 kk) ?_
  refine And.imp_right (fun kk => z_iload (pc := 1216) hG 5 rfl dL_law_1216 kk) ?_
  refine And.imp_right (fun kk => z_iconst (pc := 1218) hG kc_3 dL_law_1218 kk) ?_
  refine And.imp_right (fun kk => z_iadd (pc := 1219) hG dL_law_1219 kk) ?_
  refine And.imp_right (fun kk => z_scr (pc := 1220) hG hS 3 (by decide) rfl dL_law_1220 kk) ?_
  replace h := zbind h
  obtain ⟨v2, hv2, h⟩ := h
  replace h := zchk_some h
  obtain ⟨hqv2, h⟩ := h
  refine And.imp_right (fun kk => z_cvI (A' := A0 + (C / 64 - v1.2.2.2.2 / 64)) (B' := B0 + 2 * (C - v1.2.2.2.2)) (nc := 0) (ns := 0) (rest := []) hG [.int (a 1), .int (a 2), .int (a 3)] zc_X11 DL_42 (tX11_values hl0 (a 1) (a 2) (a 3) v1.2 hv2) zy_X11_values ⟨w1904, w1905⟩ w1903 dL_law_1221 rfl (Nat.le_of_ble_eq_true rfl) (by omega) (by omega) rfl (Nat.le_of_ble_eq_true rfl) rfl kk) ?_
  refine zpc (of_decide_eq_true hqv2) ?_
  refine And.imp_right (fun kk => z_istore (pc := 1224) (ls' := [(6, .int v2.1), (5, .int v1.1), (0, .ref 950), (1, .ref 0), (2, .ref 42), (3, .ref 72), (4, .int i)]) hG [0, 1, 2, 3, 4, 5, 6] (by decide) rfl dL_law_1224 kk) ?_
  refine And.imp_right (fun kk => z_goto (pc := 1226) (tgt := 1939) hG dL_law_1226 rfl kk) ?_
  obtain rfl := Option.some.inj h
  refine And.imp_right (fun kk => z_sub (ls' := [(0, .ref 950), (1, .ref 0), (2, .ref 42), (3, .ref 72), (4, .int i)]) [2, 3, 4, 5, 6] rfl kk) ?_
  exact kf
noncomputable def nS_28 (a : Nat → Int32) (g : zS) : Option zS :=
  (nL_forced (a 1) g).bind fun v1 => zchk (decide (v1.2.2.2.2 = g.2.2.2)) ((nX11_forced (a 1) v1.2).bind fun v2 => zchk (decide (v2.2.2.2.2 = v1.2.2.2.2)) ((nX11_thrown v2.2).bind fun v3 => if v3 = v1.1 then (if v1.1 = 0 then (if (lg_cmp (v2.2.2.1 72 (0 : Int32).toNatClampNeg) v2.1.toInt64) = 0 then (some v2.2) else (none)) else (some v2.2)) else (none)))
noncomputable def nU_28 (a : Nat → Int32) (g : zS) : Option zS :=
  (nL_forced (a 1) g).bind fun v1 => zchk (decide (v1.2.2.2.2 = g.2.2.2)) ((nX11_forced (a 1) v1.2).bind fun v2 => zchk (decide (v2.2.2.2.2 = v1.2.2.2.2)) (some v2.2))
set_option maxHeartbeats 1000000 in
theorem tS_28 {x : zXx} {i : Int32} {a : Nat → Int32} (hl0 : (zl0 x).flags = flags0) (hG : zG x cL_law 7 RL ret) (hPx : zPx x.2.2.2.2.1) (hS : zScr x i a) {A0 B0 C : Nat} (g : zS) {r : zS} (h : nU_28 a g = some r) (kf : zgr r C ∧ zK x 66 1939 [(0, .ref 950), (1, .ref 0), (2, .ref 42), (3, .ref 72), (4, .int i)] [] zD r (A0 + (C / 64 - r.2.2.2 / 64)) (B0 + 2 * (C - r.2.2.2))) : zgr g C ∧ zK x 66 1229 [(0, .ref 950), (1, .ref 0), (2, .ref 42), (3, .ref 72), (4, .int i)] [] zD g (A0 + 1 + (C / 64 - g.2.2.2 / 64)) (B0 + 6 + 2 * (C - g.2.2.2)) := by
  unfold nU_28 at h
  refine And.imp_right (fun kk => z_aload_n (pc := 1229) hG 1 rfl rfl dL_law_1229 kk) ?_
  refine And.imp_right (fun kk => z_aload_n (pc := 1230) hG 0 rfl rfl dL_law_1230 kk) ?_
  refine And.imp_right (fun kk => z_iload (pc := 1231) hG 4 rfl dL_law_1231 kk) ?_
  refine And.imp_right (fun kk => z_iconst (pc := 1233) hG kc_1 dL_law_1233 kk) ?_
  refine And.imp_right (fun kk => z_iadd (pc := 1234) hG dL_law_1234 kk) ?_
  refine And.imp_right (fun kk => z_scr (pc := 1235) hG hS 1 (by decide) rfl dL_law_1235 kk) ?_
  refine And.imp_right (fun kk => z_aload_n (pc := 1236) hG 3 rfl rfl dL_law_1236 kk) ?_
  replace h := zbind h
  obtain ⟨v1, hv1, h⟩ := h
  replace h := zchk_some h
  obtain ⟨hqv1, h⟩ := h
  refine And.imp_right (fun kk => z_csH (A' := A0 + (C / 64 - g.2.2.2 / 64)) (B' := B0 + 2 * (C - g.2.2.2)) (rest := []) hG hPx [.ref 0, .int (a 1), .ref 72] (tL_forced hl0 (a 1) g hv1) zyH_forced w1182 w1181 dL_law_1237 rfl (Nat.le_of_ble_eq_true rfl) (by omega) (by omega) rfl (Nat.le_of_ble_eq_true rfl) rfl kk) ?_
  refine zpc (of_decide_eq_true hqv1) ?_
  refine And.imp_right (fun kk => z_istore (pc := 1240) (ls' := [(5, .int v1.1), (0, .ref 950), (1, .ref 0), (2, .ref 42), (3, .ref 72), (4, .int i)]) hG [0, 1, 2, 3, 4, 5] (by decide) rfl dL_law_1240 kk) ?_
  refine And.imp_right (fun kk => z_aload_n (pc := 1242) hG 3 rfl rfl dL_law_1242 kk) ?_
  refine And.imp_right (fun kk => z_aload_n (pc := 1243) hG 1 rfl rfl dL_law_1243 kk) ?_
  refine And.imp_right (fun kk => z_iload (pc := 1244) hG 5 rfl dL_law_1244 kk) ?_
  refine And.imp_right (fun kk => z_iconst (pc := 1246) hG kc_1 dL_law_1246 kk) ?_
  refine And.imp_right (fun kk => z_iadd (pc := 1247) hG dL_law_1247 kk) ?_
  refine And.imp_right (fun kk => z_scr (pc := 1248) hG hS 1 (by decide) rfl dL_law_1248 kk) ?_
  replace h := zbind h
  obtain ⟨v2, hv2, h⟩ := h
  replace h := zchk_some h
  obtain ⟨hqv2, h⟩ := h
  refine And.imp_right (fun kk => z_cvI (A' := A0 + (C / 64 - v1.2.2.2.2 / 64)) (B' := B0 + 2 * (C - v1.2.2.2.2)) (nc := 0) (ns := 0) (rest := []) hG [.int (a 1)] zc_X11 DL_42 (tX11_forced hl0 (a 1) v1.2 hv2) zy_X11_forced ⟨w1912, w1913⟩ w1911 dL_law_1249 rfl (Nat.le_of_ble_eq_true rfl) (by omega) (by omega) rfl (Nat.le_of_ble_eq_true rfl) rfl kk) ?_
  refine zpc (of_decide_eq_true hqv2) ?_
  refine And.imp_right (fun kk => z_istore (pc := 1252) (ls' := [(6, .int v2.1), (5, .int v1.1), (0, .ref 950), (1, .ref 0), (2, .ref 42), (3, .ref 72), (4, .int i)]) hG [0, 1, 2, 3, 4, 5, 6] (by decide) rfl dL_law_1252 kk) ?_
  refine And.imp_right (fun kk => z_goto (pc := 1254) (tgt := 1939) hG dL_law_1254 rfl kk) ?_
  obtain rfl := Option.some.inj h
  refine And.imp_right (fun kk => z_sub (ls' := [(0, .ref 950), (1, .ref 0), (2, .ref 42), (3, .ref 72), (4, .int i)]) [2, 3, 4, 5, 6] rfl kk) ?_
  exact kf
noncomputable def nS_29 (a : Nat → Int32) (g : zS) : Option zS :=
  (nX10_urgent (a 1) g).bind fun v1 => zchk (decide (v1.2.2.2.2 = g.2.2.2)) ((nX11_urgent (a 1) v1.2).bind fun v2 => zchk (decide (v2.2.2.2.2 = v1.2.2.2.2)) (if v1.1 = v2.1 then (some v2.2) else (none)))
noncomputable def nU_29 (a : Nat → Int32) (g : zS) : Option zS :=
  (nX10_urgent (a 1) g).bind fun v1 => zchk (decide (v1.2.2.2.2 = g.2.2.2)) ((nX11_urgent (a 1) v1.2).bind fun v2 => zchk (decide (v2.2.2.2.2 = v1.2.2.2.2)) (some v2.2))
set_option maxHeartbeats 1000000 in
theorem tS_29 {x : zXx} {i : Int32} {a : Nat → Int32} (hl0 : (zl0 x).flags = flags0) (hG : zG x cL_law 7 RL ret) (hPx : zPx x.2.2.2.2.1) (hS : zScr x i a) {A0 B0 C : Nat} (g : zS) {r : zS} (h : nU_29 a g = some r) (kf : zgr r C ∧ zK x 66 1939 [(0, .ref 950), (1, .ref 0), (2, .ref 42), (3, .ref 72), (4, .int i)] [] zD r (A0 + (C / 64 - r.2.2.2 / 64)) (B0 + 2 * (C - r.2.2.2))) : zgr g C ∧ zK x 66 1257 [(0, .ref 950), (1, .ref 0), (2, .ref 42), (3, .ref 72), (4, .int i)] [] zD g (A0 + 0 + (C / 64 - g.2.2.2 / 64)) (B0 + 0 + 2 * (C - g.2.2.2)) := by
  unfold nU_29 at h
  refine And.imp_right (fun kk => z_aload_n (pc := 1257) hG 1 rfl rfl dL_law_1257 kk) ?_
  refine And.imp_right (fun kk => z_aload_n (pc := 1258) hG 0 rfl rfl dL_law_1258 kk) ?_
  refine And.imp_right (fun kk => z_iload (pc := 1259) hG 4 rfl dL_law_1259 kk) ?_
  refine And.imp_right (fun kk => z_iconst (pc := 1261) hG kc_1 dL_law_1261 kk) ?_
  refine And.imp_right (fun kk => z_iadd (pc := 1262) hG dL_law_1262 kk) ?_
  refine And.imp_right (fun kk => z_scr (pc := 1263) hG hS 1 (by decide) rfl dL_law_1263 kk) ?_
  replace h := zbind h
  obtain ⟨v1, hv1, h⟩ := h
  replace h := zchk_some h
  obtain ⟨hqv1, h⟩ := h
  refine And.imp_right (fun kk => z_cvI (A' := A0 + (C / 64 - g.2.2.2 / 64)) (B' := B0 + 2 * (C - g.2.2.2)) (nc := 0) (ns := 0) (rest := []) hG [.int (a 1)] zc_X10 DL_0 (tX10_urgent hl0 (a 1) g hv1) zy_X10_urgent ⟨w416, w417⟩ w415 dL_law_1264 rfl (Nat.le_of_ble_eq_true rfl) (by omega) (by omega) rfl (Nat.le_of_ble_eq_true rfl) rfl kk) ?_
  refine zpc (of_decide_eq_true hqv1) ?_
  refine And.imp_right (fun kk => z_pop (pc := 1267) hG rfl dL_law_1267 kk) ?_
  refine And.imp_right (fun kk => z_aload_n (pc := 1268) hG 2 rfl rfl dL_law_1268 kk) ?_
  refine And.imp_right (fun kk => z_aload_n (pc := 1269) hG 0 rfl rfl dL_law_1269 kk) ?_
  refine And.imp_right (fun kk => z_iload (pc := 1270) hG 4 rfl dL_law_1270 kk) ?_
  refine And.imp_right (fun kk => z_iconst (pc := 1272) hG kc_1 dL_law_1272 kk) ?_
  refine And.imp_right (fun kk => z_iadd (pc := 1273) hG dL_law_1273 kk) ?_
  refine And.imp_right (fun kk => z_scr (pc := 1274) hG hS 1 (by decide) rfl dL_law_1274 kk) ?_
  replace h := zbind h
  obtain ⟨v2, hv2, h⟩ := h
  replace h := zchk_some h
  obtain ⟨hqv2, h⟩ := h
  refine And.imp_right (fun kk => z_cvI (A' := A0 + (C / 64 - v1.2.2.2.2 / 64)) (B' := B0 + 2 * (C - v1.2.2.2.2)) (nc := 0) (ns := 0) (rest := []) hG [.int (a 1)] zc_X11 DL_42 (tX11_urgent hl0 (a 1) v1.2 hv2) zy_X11_urgent ⟨w1916, w1917⟩ w1915 dL_law_1275 rfl (Nat.le_of_ble_eq_true rfl) (by omega) (by omega) rfl (Nat.le_of_ble_eq_true rfl) rfl kk) ?_
  refine zpc (of_decide_eq_true hqv2) ?_
  refine And.imp_right (fun kk => z_pop (pc := 1278) hG rfl dL_law_1278 kk) ?_
  refine And.imp_right (fun kk => z_goto (pc := 1279) (tgt := 1939) hG dL_law_1279 rfl kk) ?_
  obtain rfl := Option.some.inj h
  exact kf
noncomputable def nS_30 (a : Nat → Int32) (g : zS) : Option zS :=
  if (a 3) = 0 then ((nL_donor (a 1) (a 2) (0 : Int32) g).bind fun v1 => zchk (decide (v1.2.2.2.2 = g.2.2.2)) (if (a 3) = 0 then ((nX11_donor (a 1) (a 2) (0 : Int32) v1.2).bind fun v2 => zchk (decide (v2.2.2.2.2 = v1.2.2.2.2)) ((nX11_thrown v2.2).bind fun v3 => if v3 = v1.1 then (if v1.1 = 0 then (if (lg_cmp (v2.2.2.1 72 (0 : Int32).toNatClampNeg) v2.1.toInt64) = 0 then (some v2.2) else (none)) else (some v2.2)) else (none))) else ((nX11_donor (a 1) (a 2) (1 : Int32) v1.2).bind fun v4 => zchk (decide (v4.2.2.2.2 = v1.2.2.2.2)) ((nX11_thrown v4.2).bind fun v5 => if v5 = v1.1 then (if v1.1 = 0 then (if (lg_cmp (v4.2.2.1 72 (0 : Int32).toNatClampNeg) v4.1.toInt64) = 0 then (some v4.2) else (none)) else (some v4.2)) else (none))))) else ((nL_donor (a 1) (a 2) (1 : Int32) g).bind fun v6 => zchk (decide (v6.2.2.2.2 = g.2.2.2)) (if (a 3) = 0 then ((nX11_donor (a 1) (a 2) (0 : Int32) v6.2).bind fun v7 => zchk (decide (v7.2.2.2.2 = v6.2.2.2.2)) ((nX11_thrown v7.2).bind fun v8 => if v8 = v6.1 then (if v6.1 = 0 then (if (lg_cmp (v7.2.2.1 72 (0 : Int32).toNatClampNeg) v7.1.toInt64) = 0 then (some v7.2) else (none)) else (some v7.2)) else (none))) else ((nX11_donor (a 1) (a 2) (1 : Int32) v6.2).bind fun v9 => zchk (decide (v9.2.2.2.2 = v6.2.2.2.2)) ((nX11_thrown v9.2).bind fun v10 => if v10 = v6.1 then (if v6.1 = 0 then (if (lg_cmp (v9.2.2.1 72 (0 : Int32).toNatClampNeg) v9.1.toInt64) = 0 then (some v9.2) else (none)) else (some v9.2)) else (none)))))
noncomputable def nU_30 (a : Nat → Int32) (g : zS) : Option zS :=
  if (a 3) = 0 then ((nL_donor (a 1) (a 2) (0 : Int32) g).bind fun v1 => zchk (decide (v1.2.2.2.2 = g.2.2.2)) (if (a 3) = 0 then ((nX11_donor (a 1) (a 2) (0 : Int32) v1.2).bind fun v2 => zchk (decide (v2.2.2.2.2 = v1.2.2.2.2)) (some v2.2)) else ((nX11_donor (a 1) (a 2) (1 : Int32) v1.2).bind fun v3 => zchk (decide (v3.2.2.2.2 = v1.2.2.2.2)) (some v3.2)))) else ((nL_donor (a 1) (a 2) (1 : Int32) g).bind fun v4 => zchk (decide (v4.2.2.2.2 = g.2.2.2)) (if (a 3) = 0 then ((nX11_donor (a 1) (a 2) (0 : Int32) v4.2).bind fun v5 => zchk (decide (v5.2.2.2.2 = v4.2.2.2.2)) (some v5.2)) else ((nX11_donor (a 1) (a 2) (1 : Int32) v4.2).bind fun v6 => zchk (decide (v6.2.2.2.2 = v4.2.2.2.2)) (some v6.2))))
set_option maxHeartbeats 1000000 in
theorem tS_30 {x : zXx} {i : Int32} {a : Nat → Int32} (hl0 : (zl0 x).flags = flags0) (hG : zG x cL_law 7 RL ret) (hPx : zPx x.2.2.2.2.1) (hS : zScr x i a) {A0 B0 C : Nat} (g : zS) {r : zS} (h : nU_30 a g = some r) (kf : zgr r C ∧ zK x 66 1939 [(0, .ref 950), (1, .ref 0), (2, .ref 42), (3, .ref 72), (4, .int i)] [] zD r (A0 + (C / 64 - r.2.2.2 / 64)) (B0 + 2 * (C - r.2.2.2))) : zgr g C ∧ zK x 66 1282 [(0, .ref 950), (1, .ref 0), (2, .ref 42), (3, .ref 72), (4, .int i)] [] zD g (A0 + 1 + (C / 64 - g.2.2.2 / 64)) (B0 + 6 + 2 * (C - g.2.2.2)) := by
  unfold nU_30 at h
  refine And.imp_right (fun kk => z_aload_n (pc := 1282) hG 1 rfl rfl dL_law_1282 kk) ?_
  refine And.imp_right (fun kk => z_aload_n (pc := 1283) hG 0 rfl rfl dL_law_1283 kk) ?_
  refine And.imp_right (fun kk => z_iload (pc := 1284) hG 4 rfl dL_law_1284 kk) ?_
  refine And.imp_right (fun kk => z_iconst (pc := 1286) hG kc_1 dL_law_1286 kk) ?_
  refine And.imp_right (fun kk => z_iadd (pc := 1287) hG dL_law_1287 kk) ?_
  refine And.imp_right (fun kk => z_scr (pc := 1288) hG hS 1 (by decide) rfl dL_law_1288 kk) ?_
  refine And.imp_right (fun kk => z_aload_n (pc := 1289) hG 0 rfl rfl dL_law_1289 kk) ?_
  refine And.imp_right (fun kk => z_iload (pc := 1290) hG 4 rfl dL_law_1290 kk) ?_
  refine And.imp_right (fun kk => z_iconst (pc := 1292) hG kc_2 dL_law_1292 kk) ?_
  refine And.imp_right (fun kk => z_iadd (pc := 1293) hG dL_law_1293 kk) ?_
  refine And.imp_right (fun kk => z_scr (pc := 1294) hG hS 2 (by decide) rfl dL_law_1294 kk) ?_
  refine And.imp_right (fun kk => z_aload_n (pc := 1295) hG 0 rfl rfl dL_law_1295 kk) ?_
  refine And.imp_right (fun kk => z_iload (pc := 1296) hG 4 rfl dL_law_1296 kk) ?_
  refine And.imp_right (fun kk => z_iconst (pc := 1298) hG kc_3 dL_law_1298 kk) ?_
  refine And.imp_right (fun kk => z_iadd (pc := 1299) hG dL_law_1299 kk) ?_
  refine And.imp_right (fun kk => z_scr (pc := 1300) hG hS 3 (by decide) rfl dL_law_1300 kk) ?_
  refine zbr (c := (a 3) = 0) (fun hc => ?_) (fun hc => ?_) (fun k1 k2 => z_if_eq (pc := 1301) (tgt := 1308) hG dL_law_1301 rfl k1 k2)
  · replace h := zif_t hc h
    refine And.imp_right (fun kk => z_iconst (pc := 1308) hG kc_0 dL_law_1308 kk) ?_
    refine And.imp_right (fun kk => z_aload_n (pc := 1309) hG 3 rfl rfl dL_law_1309 kk) ?_
    replace h := zbind h
    obtain ⟨v1, hv1, h⟩ := h
    replace h := zchk_some h
    obtain ⟨hqv1, h⟩ := h
    refine And.imp_right (fun kk => z_csH (A' := A0 + (C / 64 - g.2.2.2 / 64)) (B' := B0 + 2 * (C - g.2.2.2)) (rest := []) hG hPx [.ref 0, .int (a 1), .int (a 2), .int (0 : Int32), .ref 72] (tL_donor hl0 (a 1) (a 2) (0 : Int32) g hv1) zyH_donor w1194 w1193 dL_law_1310 rfl (Nat.le_of_ble_eq_true rfl) (by omega) (by omega) rfl (Nat.le_of_ble_eq_true rfl) rfl kk) ?_
    refine zpc (of_decide_eq_true hqv1) ?_
    refine And.imp_right (fun kk => z_istore (pc := 1313) (ls' := [(5, .int v1.1), (0, .ref 950), (1, .ref 0), (2, .ref 42), (3, .ref 72), (4, .int i)]) hG [0, 1, 2, 3, 4, 5] (by decide) rfl dL_law_1313 kk) ?_
    refine And.imp_right (fun kk => z_aload_n (pc := 1315) hG 3 rfl rfl dL_law_1315 kk) ?_
    refine And.imp_right (fun kk => z_aload_n (pc := 1316) hG 1 rfl rfl dL_law_1316 kk) ?_
    refine And.imp_right (fun kk => z_iload (pc := 1317) hG 5 rfl dL_law_1317 kk) ?_
    refine And.imp_right (fun kk => z_iconst (pc := 1319) hG kc_1 dL_law_1319 kk) ?_
    refine And.imp_right (fun kk => z_iadd (pc := 1320) hG dL_law_1320 kk) ?_
    refine And.imp_right (fun kk => z_scr (pc := 1321) hG hS 1 (by decide) rfl dL_law_1321 kk) ?_
    refine And.imp_right (fun kk => z_aload_n (pc := 1322) hG 1 rfl rfl dL_law_1322 kk) ?_
    refine And.imp_right (fun kk => z_iload (pc := 1323) hG 5 rfl dL_law_1323 kk) ?_
    refine And.imp_right (fun kk => z_iconst (pc := 1325) hG kc_2 dL_law_1325 kk) ?_
    refine And.imp_right (fun kk => z_iadd (pc := 1326) hG dL_law_1326 kk) ?_
    refine And.imp_right (fun kk => z_scr (pc := 1327) hG hS 2 (by decide) rfl dL_law_1327 kk) ?_
    refine And.imp_right (fun kk => z_aload_n (pc := 1328) hG 1 rfl rfl dL_law_1328 kk) ?_
    refine And.imp_right (fun kk => z_iload (pc := 1329) hG 5 rfl dL_law_1329 kk) ?_
    refine And.imp_right (fun kk => z_iconst (pc := 1331) hG kc_3 dL_law_1331 kk) ?_
    refine And.imp_right (fun kk => z_iadd (pc := 1332) hG dL_law_1332 kk) ?_
    refine And.imp_right (fun kk => z_scr (pc := 1333) hG hS 3 (by decide) rfl dL_law_1333 kk) ?_
    refine zbr (c := (a 3) = 0) (fun hc => ?_) (fun hc => ?_) (fun k1 k2 => z_if_eq (pc := 1334) (tgt := 1341) hG dL_law_1334 rfl k1 k2)
    · replace h := zif_t hc h
      refine And.imp_right (fun kk => z_iconst (pc := 1341) hG kc_0 dL_law_1341 kk) ?_
      replace h := zbind h
      obtain ⟨v2, hv2, h⟩ := h
      replace h := zchk_some h
      obtain ⟨hqv2, h⟩ := h
      refine And.imp_right (fun kk => z_cvI (A' := A0 + (C / 64 - v1.2.2.2.2 / 64)) (B' := B0 + 2 * (C - v1.2.2.2.2)) (nc := 0) (ns := 0) (rest := []) hG [.int (a 1), .int (a 2), .int (0 : Int32)] zc_X11 DL_42 (tX11_donor hl0 (a 1) (a 2) (0 : Int32) v1.2 hv2) zy_X11_donor ⟨w1933, w1934⟩ w1932 dL_law_1342 rfl (Nat.le_of_ble_eq_true rfl) (by omega) (by omega) rfl (Nat.le_of_ble_eq_true rfl) rfl kk) ?_
      refine zpc (of_decide_eq_true hqv2) ?_
      refine And.imp_right (fun kk => z_istore (pc := 1345) (ls' := [(6, .int v2.1), (5, .int v1.1), (0, .ref 950), (1, .ref 0), (2, .ref 42), (3, .ref 72), (4, .int i)]) hG [0, 1, 2, 3, 4, 5, 6] (by decide) rfl dL_law_1345 kk) ?_
      refine And.imp_right (fun kk => z_goto (pc := 1347) (tgt := 1939) hG dL_law_1347 rfl kk) ?_
      obtain rfl := Option.some.inj h
      refine And.imp_right (fun kk => z_sub (ls' := [(0, .ref 950), (1, .ref 0), (2, .ref 42), (3, .ref 72), (4, .int i)]) [2, 3, 4, 5, 6] rfl kk) ?_
      exact kf
    · replace h := zif_f hc h
      refine And.imp_right (fun kk => z_iconst (pc := 1337) hG kc_1 dL_law_1337 kk) ?_
      refine And.imp_right (fun kk => z_goto (pc := 1338) (tgt := 1342) hG dL_law_1338 rfl kk) ?_
      replace h := zbind h
      obtain ⟨v3, hv3, h⟩ := h
      replace h := zchk_some h
      obtain ⟨hqv3, h⟩ := h
      refine And.imp_right (fun kk => z_cvI (A' := A0 + (C / 64 - v1.2.2.2.2 / 64)) (B' := B0 + 2 * (C - v1.2.2.2.2)) (nc := 0) (ns := 0) (rest := []) hG [.int (a 1), .int (a 2), .int (1 : Int32)] zc_X11 DL_42 (tX11_donor hl0 (a 1) (a 2) (1 : Int32) v1.2 hv3) zy_X11_donor ⟨w1933, w1934⟩ w1932 dL_law_1342 rfl (Nat.le_of_ble_eq_true rfl) (by omega) (by omega) rfl (Nat.le_of_ble_eq_true rfl) rfl kk) ?_
      refine zpc (of_decide_eq_true hqv3) ?_
      refine And.imp_right (fun kk => z_istore (pc := 1345) (ls' := [(6, .int v3.1), (5, .int v1.1), (0, .ref 950), (1, .ref 0), (2, .ref 42), (3, .ref 72), (4, .int i)]) hG [0, 1, 2, 3, 4, 5, 6] (by decide) rfl dL_law_1345 kk) ?_
      refine And.imp_right (fun kk => z_goto (pc := 1347) (tgt := 1939) hG dL_law_1347 rfl kk) ?_
      obtain rfl := Option.some.inj h
      refine And.imp_right (fun kk => z_sub (ls' := [(0, .ref 950), (1, .ref 0), (2, .ref 42), (3, .ref 72), (4, .int i)]) [2, 3, 4, 5, 6] rfl kk) ?_
      exact kf
  · replace h := zif_f hc h
    refine And.imp_right (fun kk => z_iconst (pc := 1304) hG kc_1 dL_law_1304 kk) ?_
    refine And.imp_right (fun kk => z_goto (pc := 1305) (tgt := 1309) hG dL_law_1305 rfl kk) ?_
    refine And.imp_right (fun kk => z_aload_n (pc := 1309) hG 3 rfl rfl dL_law_1309 kk) ?_
    replace h := zbind h
    obtain ⟨v4, hv4, h⟩ := h
    replace h := zchk_some h
    obtain ⟨hqv4, h⟩ := h
    refine And.imp_right (fun kk => z_csH (A' := A0 + (C / 64 - g.2.2.2 / 64)) (B' := B0 + 2 * (C - g.2.2.2)) (rest := []) hG hPx [.ref 0, .int (a 1), .int (a 2), .int (1 : Int32), .ref 72] (tL_donor hl0 (a 1) (a 2) (1 : Int32) g hv4) zyH_donor w1194 w1193 dL_law_1310 rfl (Nat.le_of_ble_eq_true rfl) (by omega) (by omega) rfl (Nat.le_of_ble_eq_true rfl) rfl kk) ?_
    refine zpc (of_decide_eq_true hqv4) ?_
    refine And.imp_right (fun kk => z_istore (pc := 1313) (ls' := [(5, .int v4.1), (0, .ref 950), (1, .ref 0), (2, .ref 42), (3, .ref 72), (4, .int i)]) hG [0, 1, 2, 3, 4, 5] (by decide) rfl dL_law_1313 kk) ?_
    refine And.imp_right (fun kk => z_aload_n (pc := 1315) hG 3 rfl rfl dL_law_1315 kk) ?_
    refine And.imp_right (fun kk => z_aload_n (pc := 1316) hG 1 rfl rfl dL_law_1316 kk) ?_
    refine And.imp_right (fun kk => z_iload (pc := 1317) hG 5 rfl dL_law_1317 kk) ?_
    refine And.imp_right (fun kk => z_iconst (pc := 1319) hG kc_1 dL_law_1319 kk) ?_
    refine And.imp_right (fun kk => z_iadd (pc := 1320) hG dL_law_1320 kk) ?_
    refine And.imp_right (fun kk => z_scr (pc := 1321) hG hS 1 (by decide) rfl dL_law_1321 kk) ?_
    refine And.imp_right (fun kk => z_aload_n (pc := 1322) hG 1 rfl rfl dL_law_1322 kk) ?_
    refine And.imp_right (fun kk => z_iload (pc := 1323) hG 5 rfl dL_law_1323 kk) ?_
    refine And.imp_right (fun kk => z_iconst (pc := 1325) hG kc_2 dL_law_1325 kk) ?_
    refine And.imp_right (fun kk => z_iadd (pc := 1326) hG dL_law_1326 kk) ?_
    refine And.imp_right (fun kk => z_scr (pc := 1327) hG hS 2 (by decide) rfl dL_law_1327 kk) ?_
    refine And.imp_right (fun kk => z_aload_n (pc := 1328) hG 1 rfl rfl dL_law_1328 kk) ?_
    refine And.imp_right (fun kk => z_iload (pc := 1329) hG 5 rfl dL_law_1329 kk) ?_
    refine And.imp_right (fun kk => z_iconst (pc := 1331) hG kc_3 dL_law_1331 kk) ?_
    refine And.imp_right (fun kk => z_iadd (pc := 1332) hG dL_law_1332 kk) ?_
    refine And.imp_right (fun kk => z_scr (pc := 1333) hG hS 3 (by decide) rfl dL_law_1333 kk) ?_
    refine zbr (c := (a 3) = 0) (fun hc => ?_) (fun hc => ?_) (fun k1 k2 => z_if_eq (pc := 1334) (tgt := 1341) hG dL_law_1334 rfl k1 k2)
    · replace h := zif_t hc h
      refine And.imp_right (fun kk => z_iconst (pc := 1341) hG kc_0 dL_law_1341 kk) ?_
      replace h := zbind h
      obtain ⟨v5, hv5, h⟩ := h
      replace h := zchk_some h
      obtain ⟨hqv5, h⟩ := h
      refine And.imp_right (fun kk => z_cvI (A' := A0 + (C / 64 - v4.2.2.2.2 / 64)) (B' := B0 + 2 * (C - v4.2.2.2.2)) (nc := 0) (ns := 0) (rest := []) hG [.int (a 1), .int (a 2), .int (0 : Int32)] zc_X11 DL_42 (tX11_donor hl0 (a 1) (a 2) (0 : Int32) v4.2 hv5) zy_X11_donor ⟨w1933, w1934⟩ w1932 dL_law_1342 rfl (Nat.le_of_ble_eq_true rfl) (by omega) (by omega) rfl (Nat.le_of_ble_eq_true rfl) rfl kk) ?_
      refine zpc (of_decide_eq_true hqv5) ?_
      refine And.imp_right (fun kk => z_istore (pc := 1345) (ls' := [(6, .int v5.1), (5, .int v4.1), (0, .ref 950), (1, .ref 0), (2, .ref 42), (3, .ref 72), (4, .int i)]) hG [0, 1, 2, 3, 4, 5, 6] (by decide) rfl dL_law_1345 kk) ?_
      refine And.imp_right (fun kk => z_goto (pc := 1347) (tgt := 1939) hG dL_law_1347 rfl kk) ?_
      obtain rfl := Option.some.inj h
      refine And.imp_right (fun kk => z_sub (ls' := [(0, .ref 950), (1, .ref 0), (2, .ref 42), (3, .ref 72), (4, .int i)]) [2, 3, 4, 5, 6] rfl kk) ?_
      exact kf
    · replace h := zif_f hc h
      refine And.imp_right (fun kk => z_iconst (pc := 1337) hG kc_1 dL_law_1337 kk) ?_
      refine And.imp_right (fun kk => z_goto (pc := 1338) (tgt := 1342) hG dL_law_1338 rfl kk) ?_
      replace h := zbind h
      obtain ⟨v6, hv6, h⟩ := h
      replace h := zchk_some h
      obtain ⟨hqv6, h⟩ := h
      refine And.imp_right (fun kk => z_cvI (A' := A0 + (C / 64 - v4.2.2.2.2 / 64)) (B' := B0 + 2 * (C - v4.2.2.2.2)) (nc := 0) (ns := 0) (rest := []) hG [.int (a 1), .int (a 2), .int (1 : Int32)] zc_X11 DL_42 (tX11_donor hl0 (a 1) (a 2) (1 : Int32) v4.2 hv6) zy_X11_donor ⟨w1933, w1934⟩ w1932 dL_law_1342 rfl (Nat.le_of_ble_eq_true rfl) (by omega) (by omega) rfl (Nat.le_of_ble_eq_true rfl) rfl kk) ?_
      refine zpc (of_decide_eq_true hqv6) ?_
      refine And.imp_right (fun kk => z_istore (pc := 1345) (ls' := [(6, .int v6.1), (5, .int v4.1), (0, .ref 950), (1, .ref 0), (2, .ref 42), (3, .ref 72), (4, .int i)]) hG [0, 1, 2, 3, 4, 5, 6] (by decide) rfl dL_law_1345 kk) ?_
      refine And.imp_right (fun kk => z_goto (pc := 1347) (tgt := 1939) hG dL_law_1347 rfl kk) ?_
      obtain rfl := Option.some.inj h
      refine And.imp_right (fun kk => z_sub (ls' := [(0, .ref 950), (1, .ref 0), (2, .ref 42), (3, .ref 72), (4, .int i)]) [2, 3, 4, 5, 6] rfl kk) ?_
      exact kf
noncomputable def nS_31 (a : Nat → Int32) (g : zS) : Option zS :=
  (nL_would (a 1) (a 2) g).bind fun v1 => zchk (decide (v1.2.2.2.2 = g.2.2.2)) ((nX11_would (a 1) (a 2) v1.2).bind fun v2 => zchk (decide (v2.2.2.2.2 = v1.2.2.2.2)) ((nX11_thrown v2.2).bind fun v3 => if v3 = v1.1 then (if v1.1 = 0 then (if (lg_cmp (v2.2.2.1 72 (0 : Int32).toNatClampNeg) v2.1.toInt64) = 0 then (some v2.2) else (none)) else (some v2.2)) else (none)))
noncomputable def nU_31 (a : Nat → Int32) (g : zS) : Option zS :=
  (nL_would (a 1) (a 2) g).bind fun v1 => zchk (decide (v1.2.2.2.2 = g.2.2.2)) ((nX11_would (a 1) (a 2) v1.2).bind fun v2 => zchk (decide (v2.2.2.2.2 = v1.2.2.2.2)) (some v2.2))
set_option maxHeartbeats 1000000 in
theorem tS_31 {x : zXx} {i : Int32} {a : Nat → Int32} (hl0 : (zl0 x).flags = flags0) (hG : zG x cL_law 7 RL ret) (hPx : zPx x.2.2.2.2.1) (hS : zScr x i a) {A0 B0 C : Nat} (g : zS) {r : zS} (h : nU_31 a g = some r) (kf : zgr r C ∧ zK x 66 1939 [(0, .ref 950), (1, .ref 0), (2, .ref 42), (3, .ref 72), (4, .int i)] [] zD r (A0 + (C / 64 - r.2.2.2 / 64)) (B0 + 2 * (C - r.2.2.2))) : zgr g C ∧ zK x 66 1350 [(0, .ref 950), (1, .ref 0), (2, .ref 42), (3, .ref 72), (4, .int i)] [] zD g (A0 + 2 + (C / 64 - g.2.2.2 / 64)) (B0 + 12 + 2 * (C - g.2.2.2)) := by
  unfold nU_31 at h
  refine And.imp_right (fun kk => z_aload_n (pc := 1350) hG 1 rfl rfl dL_law_1350 kk) ?_
  refine And.imp_right (fun kk => z_aload_n (pc := 1351) hG 0 rfl rfl dL_law_1351 kk) ?_
  refine And.imp_right (fun kk => z_iload (pc := 1352) hG 4 rfl dL_law_1352 kk) ?_
  refine And.imp_right (fun kk => z_iconst (pc := 1354) hG kc_1 dL_law_1354 kk) ?_
  refine And.imp_right (fun kk => z_iadd (pc := 1355) hG dL_law_1355 kk) ?_
  refine And.imp_right (fun kk => z_scr (pc := 1356) hG hS 1 (by decide) rfl dL_law_1356 kk) ?_
  refine And.imp_right (fun kk => z_aload_n (pc := 1357) hG 0 rfl rfl dL_law_1357 kk) ?_
  refine And.imp_right (fun kk => z_iload (pc := 1358) hG 4 rfl dL_law_1358 kk) ?_
  refine And.imp_right (fun kk => z_iconst (pc := 1360) hG kc_2 dL_law_1360 kk) ?_
  refine And.imp_right (fun kk => z_iadd (pc := 1361) hG dL_law_1361 kk) ?_
  refine And.imp_right (fun kk => z_scr (pc := 1362) hG hS 2 (by decide) rfl dL_law_1362 kk) ?_
  refine And.imp_right (fun kk => z_aload_n (pc := 1363) hG 3 rfl rfl dL_law_1363 kk) ?_
  replace h := zbind h
  obtain ⟨v1, hv1, h⟩ := h
  replace h := zchk_some h
  obtain ⟨hqv1, h⟩ := h
  refine And.imp_right (fun kk => z_csH (A' := A0 + (C / 64 - g.2.2.2 / 64)) (B' := B0 + 2 * (C - g.2.2.2)) (rest := []) hG hPx [.ref 0, .int (a 1), .int (a 2), .ref 72] (tL_would hl0 (a 1) (a 2) g hv1) zyH_would w1246 w1245 dL_law_1364 rfl (Nat.le_of_ble_eq_true rfl) (by omega) (by omega) rfl (Nat.le_of_ble_eq_true rfl) rfl kk) ?_
  refine zpc (of_decide_eq_true hqv1) ?_
  refine And.imp_right (fun kk => z_istore (pc := 1367) (ls' := [(5, .int v1.1), (0, .ref 950), (1, .ref 0), (2, .ref 42), (3, .ref 72), (4, .int i)]) hG [0, 1, 2, 3, 4, 5] (by decide) rfl dL_law_1367 kk) ?_
  refine And.imp_right (fun kk => z_aload_n (pc := 1369) hG 3 rfl rfl dL_law_1369 kk) ?_
  refine And.imp_right (fun kk => z_aload_n (pc := 1370) hG 1 rfl rfl dL_law_1370 kk) ?_
  refine And.imp_right (fun kk => z_iload (pc := 1371) hG 5 rfl dL_law_1371 kk) ?_
  refine And.imp_right (fun kk => z_iconst (pc := 1373) hG kc_1 dL_law_1373 kk) ?_
  refine And.imp_right (fun kk => z_iadd (pc := 1374) hG dL_law_1374 kk) ?_
  refine And.imp_right (fun kk => z_scr (pc := 1375) hG hS 1 (by decide) rfl dL_law_1375 kk) ?_
  refine And.imp_right (fun kk => z_aload_n (pc := 1376) hG 1 rfl rfl dL_law_1376 kk) ?_
  refine And.imp_right (fun kk => z_iload (pc := 1377) hG 5 rfl dL_law_1377 kk) ?_
  refine And.imp_right (fun kk => z_iconst (pc := 1379) hG kc_2 dL_law_1379 kk) ?_
  refine And.imp_right (fun kk => z_iadd (pc := 1380) hG dL_law_1380 kk) ?_
  refine And.imp_right (fun kk => z_scr (pc := 1381) hG hS 2 (by decide) rfl dL_law_1381 kk) ?_
  replace h := zbind h
  obtain ⟨v2, hv2, h⟩ := h
  replace h := zchk_some h
  obtain ⟨hqv2, h⟩ := h
  refine And.imp_right (fun kk => z_cvI (A' := A0 + (C / 64 - v1.2.2.2.2 / 64)) (B' := B0 + 2 * (C - v1.2.2.2.2)) (nc := 0) (ns := 0) (rest := []) hG [.int (a 1), .int (a 2)] zc_X11 DL_42 (tX11_would hl0 (a 1) (a 2) v1.2 hv2) zy_X11_would ⟨w1949, w1950⟩ w1948 dL_law_1382 rfl (Nat.le_of_ble_eq_true rfl) (by omega) (by omega) rfl (Nat.le_of_ble_eq_true rfl) rfl kk) ?_
  refine zpc (of_decide_eq_true hqv2) ?_
  refine And.imp_right (fun kk => z_istore (pc := 1385) (ls' := [(6, .int v2.1), (5, .int v1.1), (0, .ref 950), (1, .ref 0), (2, .ref 42), (3, .ref 72), (4, .int i)]) hG [0, 1, 2, 3, 4, 5, 6] (by decide) rfl dL_law_1385 kk) ?_
  refine And.imp_right (fun kk => z_goto (pc := 1387) (tgt := 1939) hG dL_law_1387 rfl kk) ?_
  obtain rfl := Option.some.inj h
  refine And.imp_right (fun kk => z_sub (ls' := [(0, .ref 950), (1, .ref 0), (2, .ref 42), (3, .ref 72), (4, .int i)]) [2, 3, 4, 5, 6] rfl kk) ?_
  exact kf
noncomputable def nS_32 (a : Nat → Int32) (g : zS) : Option zS :=
  (nL_mend (a 1) (a 2) g).bind fun v1 => zchk (decide (v1.2.2.2.2 = g.2.2.2)) ((nX11_mend (a 1) (a 2) v1.2).bind fun v2 => zchk (decide (v2.2.2.2.2 = v1.2.2.2.2)) ((nX11_thrown v2.2).bind fun v3 => if v3 = v1.1 then (if v1.1 = 0 then (if (lg_cmp (v2.2.2.1 72 (0 : Int32).toNatClampNeg) v2.1.toInt64) = 0 then (some v2.2) else (none)) else (some v2.2)) else (none)))
noncomputable def nU_32 (a : Nat → Int32) (g : zS) : Option zS :=
  (nL_mend (a 1) (a 2) g).bind fun v1 => zchk (decide (v1.2.2.2.2 = g.2.2.2)) ((nX11_mend (a 1) (a 2) v1.2).bind fun v2 => zchk (decide (v2.2.2.2.2 = v1.2.2.2.2)) (some v2.2))
set_option maxHeartbeats 1000000 in
theorem tS_32 {x : zXx} {i : Int32} {a : Nat → Int32} (hl0 : (zl0 x).flags = flags0) (hG : zG x cL_law 7 RL ret) (hPx : zPx x.2.2.2.2.1) (hS : zScr x i a) {A0 B0 C : Nat} (g : zS) {r : zS} (h : nU_32 a g = some r) (kf : zgr r C ∧ zK x 66 1939 [(0, .ref 950), (1, .ref 0), (2, .ref 42), (3, .ref 72), (4, .int i)] [] zD r (A0 + (C / 64 - r.2.2.2 / 64)) (B0 + 2 * (C - r.2.2.2))) : zgr g C ∧ zK x 66 1390 [(0, .ref 950), (1, .ref 0), (2, .ref 42), (3, .ref 72), (4, .int i)] [] zD g (A0 + 3 + (C / 64 - g.2.2.2 / 64)) (B0 + 18 + 2 * (C - g.2.2.2)) := by
  unfold nU_32 at h
  refine And.imp_right (fun kk => z_aload_n (pc := 1390) hG 1 rfl rfl dL_law_1390 kk) ?_
  refine And.imp_right (fun kk => z_aload_n (pc := 1391) hG 0 rfl rfl dL_law_1391 kk) ?_
  refine And.imp_right (fun kk => z_iload (pc := 1392) hG 4 rfl dL_law_1392 kk) ?_
  refine And.imp_right (fun kk => z_iconst (pc := 1394) hG kc_1 dL_law_1394 kk) ?_
  refine And.imp_right (fun kk => z_iadd (pc := 1395) hG dL_law_1395 kk) ?_
  refine And.imp_right (fun kk => z_scr (pc := 1396) hG hS 1 (by decide) rfl dL_law_1396 kk) ?_
  refine And.imp_right (fun kk => z_aload_n (pc := 1397) hG 0 rfl rfl dL_law_1397 kk) ?_
  refine And.imp_right (fun kk => z_iload (pc := 1398) hG 4 rfl dL_law_1398 kk) ?_
  refine And.imp_right (fun kk => z_iconst (pc := 1400) hG kc_2 dL_law_1400 kk) ?_
  refine And.imp_right (fun kk => z_iadd (pc := 1401) hG dL_law_1401 kk) ?_
  refine And.imp_right (fun kk => z_scr (pc := 1402) hG hS 2 (by decide) rfl dL_law_1402 kk) ?_
  refine And.imp_right (fun kk => z_aload_n (pc := 1403) hG 3 rfl rfl dL_law_1403 kk) ?_
  replace h := zbind h
  obtain ⟨v1, hv1, h⟩ := h
  replace h := zchk_some h
  obtain ⟨hqv1, h⟩ := h
  refine And.imp_right (fun kk => z_csH (A' := A0 + (C / 64 - g.2.2.2 / 64)) (B' := B0 + 2 * (C - g.2.2.2)) (rest := []) hG hPx [.ref 0, .int (a 1), .int (a 2), .ref 72] (tL_mend hl0 (a 1) (a 2) g hv1) zyH_mend w1282 w1281 dL_law_1404 rfl (Nat.le_of_ble_eq_true rfl) (by omega) (by omega) rfl (Nat.le_of_ble_eq_true rfl) rfl kk) ?_
  refine zpc (of_decide_eq_true hqv1) ?_
  refine And.imp_right (fun kk => z_istore (pc := 1407) (ls' := [(5, .int v1.1), (0, .ref 950), (1, .ref 0), (2, .ref 42), (3, .ref 72), (4, .int i)]) hG [0, 1, 2, 3, 4, 5] (by decide) rfl dL_law_1407 kk) ?_
  refine And.imp_right (fun kk => z_aload_n (pc := 1409) hG 3 rfl rfl dL_law_1409 kk) ?_
  refine And.imp_right (fun kk => z_aload_n (pc := 1410) hG 1 rfl rfl dL_law_1410 kk) ?_
  refine And.imp_right (fun kk => z_iload (pc := 1411) hG 5 rfl dL_law_1411 kk) ?_
  refine And.imp_right (fun kk => z_iconst (pc := 1413) hG kc_1 dL_law_1413 kk) ?_
  refine And.imp_right (fun kk => z_iadd (pc := 1414) hG dL_law_1414 kk) ?_
  refine And.imp_right (fun kk => z_scr (pc := 1415) hG hS 1 (by decide) rfl dL_law_1415 kk) ?_
  refine And.imp_right (fun kk => z_aload_n (pc := 1416) hG 1 rfl rfl dL_law_1416 kk) ?_
  refine And.imp_right (fun kk => z_iload (pc := 1417) hG 5 rfl dL_law_1417 kk) ?_
  refine And.imp_right (fun kk => z_iconst (pc := 1419) hG kc_2 dL_law_1419 kk) ?_
  refine And.imp_right (fun kk => z_iadd (pc := 1420) hG dL_law_1420 kk) ?_
  refine And.imp_right (fun kk => z_scr (pc := 1421) hG hS 2 (by decide) rfl dL_law_1421 kk) ?_
  replace h := zbind h
  obtain ⟨v2, hv2, h⟩ := h
  replace h := zchk_some h
  obtain ⟨hqv2, h⟩ := h
  refine And.imp_right (fun kk => z_cvI (A' := A0 + (C / 64 - v1.2.2.2.2 / 64)) (B' := B0 + 2 * (C - v1.2.2.2.2)) (nc := 0) (ns := 0) (rest := []) hG [.int (a 1), .int (a 2)] zc_X11 DL_42 (tX11_mend hl0 (a 1) (a 2) v1.2 hv2) zy_X11_mend ⟨w1960, w1961⟩ w1959 dL_law_1422 rfl (Nat.le_of_ble_eq_true rfl) (by omega) (by omega) rfl (Nat.le_of_ble_eq_true rfl) rfl kk) ?_
  refine zpc (of_decide_eq_true hqv2) ?_
  refine And.imp_right (fun kk => z_istore (pc := 1425) (ls' := [(6, .int v2.1), (5, .int v1.1), (0, .ref 950), (1, .ref 0), (2, .ref 42), (3, .ref 72), (4, .int i)]) hG [0, 1, 2, 3, 4, 5, 6] (by decide) rfl dL_law_1425 kk) ?_
  refine And.imp_right (fun kk => z_goto (pc := 1427) (tgt := 1939) hG dL_law_1427 rfl kk) ?_
  obtain rfl := Option.some.inj h
  refine And.imp_right (fun kk => z_sub (ls' := [(0, .ref 950), (1, .ref 0), (2, .ref 42), (3, .ref 72), (4, .int i)]) [2, 3, 4, 5, 6] rfl kk) ?_
  exact kf
noncomputable def nS_33 (a : Nat → Int32) (g : zS) : Option zS :=
  (nL_mendAll (a 1) g).bind fun v1 => zchk (decide (v1.2.2.2.2 = g.2.2.2)) ((nX11_mendAll (a 1) v1.2).bind fun v2 => zchk (decide (v2.2.2.2.2 = v1.2.2.2.2)) ((nX11_thrown v2.2).bind fun v3 => if v3 = v1.1 then (if v1.1 = 0 then (if (lg_cmp (v2.2.2.1 72 (0 : Int32).toNatClampNeg) v2.1.toInt64) = 0 then (some v2.2) else (none)) else (some v2.2)) else (none)))
noncomputable def nU_33 (a : Nat → Int32) (g : zS) : Option zS :=
  (nL_mendAll (a 1) g).bind fun v1 => zchk (decide (v1.2.2.2.2 = g.2.2.2)) ((nX11_mendAll (a 1) v1.2).bind fun v2 => zchk (decide (v2.2.2.2.2 = v1.2.2.2.2)) (some v2.2))
set_option maxHeartbeats 1000000 in
theorem tS_33 {x : zXx} {i : Int32} {a : Nat → Int32} (hl0 : (zl0 x).flags = flags0) (hG : zG x cL_law 7 RL ret) (hPx : zPx x.2.2.2.2.1) (hS : zScr x i a) {A0 B0 C : Nat} (g : zS) {r : zS} (h : nU_33 a g = some r) (kf : zgr r C ∧ zK x 66 1939 [(0, .ref 950), (1, .ref 0), (2, .ref 42), (3, .ref 72), (4, .int i)] [] zD r (A0 + (C / 64 - r.2.2.2 / 64)) (B0 + 2 * (C - r.2.2.2))) : zgr g C ∧ zK x 66 1430 [(0, .ref 950), (1, .ref 0), (2, .ref 42), (3, .ref 72), (4, .int i)] [] zD g (A0 + 1 + (C / 64 - g.2.2.2 / 64)) (B0 + 6 + 2 * (C - g.2.2.2)) := by
  unfold nU_33 at h
  refine And.imp_right (fun kk => z_aload_n (pc := 1430) hG 1 rfl rfl dL_law_1430 kk) ?_
  refine And.imp_right (fun kk => z_aload_n (pc := 1431) hG 0 rfl rfl dL_law_1431 kk) ?_
  refine And.imp_right (fun kk => z_iload (pc := 1432) hG 4 rfl dL_law_1432 kk) ?_
  refine And.imp_right (fun kk => z_iconst (pc := 1434) hG kc_1 dL_law_1434 kk) ?_
  refine And.imp_right (fun kk => z_iadd (pc := 1435) hG dL_law_1435 kk) ?_
  refine And.imp_right (fun kk => z_scr (pc := 1436) hG hS 1 (by decide) rfl dL_law_1436 kk) ?_
  refine And.imp_right (fun kk => z_aload_n (pc := 1437) hG 3 rfl rfl dL_law_1437 kk) ?_
  replace h := zbind h
  obtain ⟨v1, hv1, h⟩ := h
  replace h := zchk_some h
  obtain ⟨hqv1, h⟩ := h
  refine And.imp_right (fun kk => z_csH (A' := A0 + (C / 64 - g.2.2.2 / 64)) (B' := B0 + 2 * (C - g.2.2.2)) (rest := []) hG hPx [.ref 0, .int (a 1), .ref 72] (tL_mendAll hl0 (a 1) g hv1) zyH_mendAll w1294 w1293 dL_law_1438 rfl (Nat.le_of_ble_eq_true rfl) (by omega) (by omega) rfl (Nat.le_of_ble_eq_true rfl) rfl kk) ?_
  refine zpc (of_decide_eq_true hqv1) ?_
  refine And.imp_right (fun kk => z_istore (pc := 1441) (ls' := [(5, .int v1.1), (0, .ref 950), (1, .ref 0), (2, .ref 42), (3, .ref 72), (4, .int i)]) hG [0, 1, 2, 3, 4, 5] (by decide) rfl dL_law_1441 kk) ?_
  refine And.imp_right (fun kk => z_aload_n (pc := 1443) hG 3 rfl rfl dL_law_1443 kk) ?_
  refine And.imp_right (fun kk => z_aload_n (pc := 1444) hG 1 rfl rfl dL_law_1444 kk) ?_
  refine And.imp_right (fun kk => z_iload (pc := 1445) hG 5 rfl dL_law_1445 kk) ?_
  refine And.imp_right (fun kk => z_iconst (pc := 1447) hG kc_1 dL_law_1447 kk) ?_
  refine And.imp_right (fun kk => z_iadd (pc := 1448) hG dL_law_1448 kk) ?_
  refine And.imp_right (fun kk => z_scr (pc := 1449) hG hS 1 (by decide) rfl dL_law_1449 kk) ?_
  replace h := zbind h
  obtain ⟨v2, hv2, h⟩ := h
  replace h := zchk_some h
  obtain ⟨hqv2, h⟩ := h
  refine And.imp_right (fun kk => z_cvI (A' := A0 + (C / 64 - v1.2.2.2.2 / 64)) (B' := B0 + 2 * (C - v1.2.2.2.2)) (nc := 0) (ns := 0) (rest := []) hG [.int (a 1)] zc_X11 DL_42 (tX11_mendAll hl0 (a 1) v1.2 hv2) zy_X11_mendAll ⟨w1972, w1973⟩ w1971 dL_law_1450 rfl (Nat.le_of_ble_eq_true rfl) (by omega) (by omega) rfl (Nat.le_of_ble_eq_true rfl) rfl kk) ?_
  refine zpc (of_decide_eq_true hqv2) ?_
  refine And.imp_right (fun kk => z_istore (pc := 1453) (ls' := [(6, .int v2.1), (5, .int v1.1), (0, .ref 950), (1, .ref 0), (2, .ref 42), (3, .ref 72), (4, .int i)]) hG [0, 1, 2, 3, 4, 5, 6] (by decide) rfl dL_law_1453 kk) ?_
  refine And.imp_right (fun kk => z_goto (pc := 1455) (tgt := 1939) hG dL_law_1455 rfl kk) ?_
  obtain rfl := Option.some.inj h
  refine And.imp_right (fun kk => z_sub (ls' := [(0, .ref 950), (1, .ref 0), (2, .ref 42), (3, .ref 72), (4, .int i)]) [2, 3, 4, 5, 6] rfl kk) ?_
  exact kf
noncomputable def nS_34 (a : Nat → Int32) (g : zS) : Option zS :=
  (nL_trial (a 1) (a 2) g).bind fun v1 => zchk (decide (v1.2.2.2.2 = g.2.2.2)) ((nX11_trial (a 1) (a 2) v1.2).bind fun v2 => zchk (decide (v2.2.2.2.2 = v1.2.2.2.2)) ((nX11_thrown v2.2).bind fun v3 => if v3 = v1.1 then (if v1.1 = 0 then (if (lg_cmp (v2.2.2.1 72 (0 : Int32).toNatClampNeg) v2.1.toInt64) = 0 then (some v2.2) else (none)) else (some v2.2)) else (none)))
noncomputable def nU_34 (a : Nat → Int32) (g : zS) : Option zS :=
  (nL_trial (a 1) (a 2) g).bind fun v1 => zchk (decide (v1.2.2.2.2 = g.2.2.2)) ((nX11_trial (a 1) (a 2) v1.2).bind fun v2 => zchk (decide (v2.2.2.2.2 = v1.2.2.2.2)) (some v2.2))
set_option maxHeartbeats 1000000 in
theorem tS_34 {x : zXx} {i : Int32} {a : Nat → Int32} (hl0 : (zl0 x).flags = flags0) (hG : zG x cL_law 7 RL ret) (hPx : zPx x.2.2.2.2.1) (hS : zScr x i a) {A0 B0 C : Nat} (g : zS) {r : zS} (h : nU_34 a g = some r) (kf : zgr r C ∧ zK x 66 1939 [(0, .ref 950), (1, .ref 0), (2, .ref 42), (3, .ref 72), (4, .int i)] [] zD r (A0 + (C / 64 - r.2.2.2 / 64)) (B0 + 2 * (C - r.2.2.2))) : zgr g C ∧ zK x 66 1458 [(0, .ref 950), (1, .ref 0), (2, .ref 42), (3, .ref 72), (4, .int i)] [] zD g (A0 + 2 + (C / 64 - g.2.2.2 / 64)) (B0 + 12 + 2 * (C - g.2.2.2)) := by
  unfold nU_34 at h
  refine And.imp_right (fun kk => z_aload_n (pc := 1458) hG 1 rfl rfl dL_law_1458 kk) ?_
  refine And.imp_right (fun kk => z_aload_n (pc := 1459) hG 0 rfl rfl dL_law_1459 kk) ?_
  refine And.imp_right (fun kk => z_iload (pc := 1460) hG 4 rfl dL_law_1460 kk) ?_
  refine And.imp_right (fun kk => z_iconst (pc := 1462) hG kc_1 dL_law_1462 kk) ?_
  refine And.imp_right (fun kk => z_iadd (pc := 1463) hG dL_law_1463 kk) ?_
  refine And.imp_right (fun kk => z_scr (pc := 1464) hG hS 1 (by decide) rfl dL_law_1464 kk) ?_
  refine And.imp_right (fun kk => z_aload_n (pc := 1465) hG 0 rfl rfl dL_law_1465 kk) ?_
  refine And.imp_right (fun kk => z_iload (pc := 1466) hG 4 rfl dL_law_1466 kk) ?_
  refine And.imp_right (fun kk => z_iconst (pc := 1468) hG kc_2 dL_law_1468 kk) ?_
  refine And.imp_right (fun kk => z_iadd (pc := 1469) hG dL_law_1469 kk) ?_
  refine And.imp_right (fun kk => z_scr (pc := 1470) hG hS 2 (by decide) rfl dL_law_1470 kk) ?_
  refine And.imp_right (fun kk => z_aload_n (pc := 1471) hG 3 rfl rfl dL_law_1471 kk) ?_
  replace h := zbind h
  obtain ⟨v1, hv1, h⟩ := h
  replace h := zchk_some h
  obtain ⟨hqv1, h⟩ := h
  refine And.imp_right (fun kk => z_csH (A' := A0 + (C / 64 - g.2.2.2 / 64)) (B' := B0 + 2 * (C - g.2.2.2)) (rest := []) hG hPx [.ref 0, .int (a 1), .int (a 2), .ref 72] (tL_trial hl0 (a 1) (a 2) g hv1) zyH_trial w1306 w1305 dL_law_1472 rfl (Nat.le_of_ble_eq_true rfl) (by omega) (by omega) rfl (Nat.le_of_ble_eq_true rfl) rfl kk) ?_
  refine zpc (of_decide_eq_true hqv1) ?_
  refine And.imp_right (fun kk => z_istore (pc := 1475) (ls' := [(5, .int v1.1), (0, .ref 950), (1, .ref 0), (2, .ref 42), (3, .ref 72), (4, .int i)]) hG [0, 1, 2, 3, 4, 5] (by decide) rfl dL_law_1475 kk) ?_
  refine And.imp_right (fun kk => z_aload_n (pc := 1477) hG 3 rfl rfl dL_law_1477 kk) ?_
  refine And.imp_right (fun kk => z_aload_n (pc := 1478) hG 1 rfl rfl dL_law_1478 kk) ?_
  refine And.imp_right (fun kk => z_iload (pc := 1479) hG 5 rfl dL_law_1479 kk) ?_
  refine And.imp_right (fun kk => z_iconst (pc := 1481) hG kc_1 dL_law_1481 kk) ?_
  refine And.imp_right (fun kk => z_iadd (pc := 1482) hG dL_law_1482 kk) ?_
  refine And.imp_right (fun kk => z_scr (pc := 1483) hG hS 1 (by decide) rfl dL_law_1483 kk) ?_
  refine And.imp_right (fun kk => z_aload_n (pc := 1484) hG 1 rfl rfl dL_law_1484 kk) ?_
  refine And.imp_right (fun kk => z_iload (pc := 1485) hG 5 rfl dL_law_1485 kk) ?_
  refine And.imp_right (fun kk => z_iconst (pc := 1487) hG kc_2 dL_law_1487 kk) ?_
  refine And.imp_right (fun kk => z_iadd (pc := 1488) hG dL_law_1488 kk) ?_
  refine And.imp_right (fun kk => z_scr (pc := 1489) hG hS 2 (by decide) rfl dL_law_1489 kk) ?_
  replace h := zbind h
  obtain ⟨v2, hv2, h⟩ := h
  replace h := zchk_some h
  obtain ⟨hqv2, h⟩ := h
  refine And.imp_right (fun kk => z_cvI (A' := A0 + (C / 64 - v1.2.2.2.2 / 64)) (B' := B0 + 2 * (C - v1.2.2.2.2)) (nc := 0) (ns := 0) (rest := []) hG [.int (a 1), .int (a 2)] zc_X11 DL_42 (tX11_trial hl0 (a 1) (a 2) v1.2 hv2) zy_X11_trial ⟨w1980, w1981⟩ w1979 dL_law_1490 rfl (Nat.le_of_ble_eq_true rfl) (by omega) (by omega) rfl (Nat.le_of_ble_eq_true rfl) rfl kk) ?_
  refine zpc (of_decide_eq_true hqv2) ?_
  refine And.imp_right (fun kk => z_istore (pc := 1493) (ls' := [(6, .int v2.1), (5, .int v1.1), (0, .ref 950), (1, .ref 0), (2, .ref 42), (3, .ref 72), (4, .int i)]) hG [0, 1, 2, 3, 4, 5, 6] (by decide) rfl dL_law_1493 kk) ?_
  refine And.imp_right (fun kk => z_goto (pc := 1495) (tgt := 1939) hG dL_law_1495 rfl kk) ?_
  obtain rfl := Option.some.inj h
  refine And.imp_right (fun kk => z_sub (ls' := [(0, .ref 950), (1, .ref 0), (2, .ref 42), (3, .ref 72), (4, .int i)]) [2, 3, 4, 5, 6] rfl kk) ?_
  exact kf
noncomputable def nS_35 (a : Nat → Int32) (g : zS) : Option zS :=
  (nX10_undo g).bind fun v1 => zchk (decide (v1.2.2.2.2 = g.2.2.2)) ((nX11_undo v1.2).bind fun v2 => zchk (decide (v2.2.2.2.2 = v1.2.2.2.2)) (if v1.1 = v2.1 then (some v2.2) else (none)))
set_option maxHeartbeats 1000000 in
theorem tS_35 {x : zXx} {i : Int32} {a : Nat → Int32} (hl0 : (zl0 x).flags = flags0) (hG : zG x cL_law 7 RL ret) (hPx : zPx x.2.2.2.2.1) (hS : zScr x i a) {A0 B0 C : Nat} (g : zS) {r : zS} (h : nS_35 a g = some r) (kf : zgr r C ∧ zK x 66 1939 [(0, .ref 950), (1, .ref 0), (2, .ref 42), (3, .ref 72), (4, .int i)] [] zD r (A0 + (C / 64 - r.2.2.2 / 64)) (B0 + 2 * (C - r.2.2.2))) : zgr g C ∧ zK x 66 1498 [(0, .ref 950), (1, .ref 0), (2, .ref 42), (3, .ref 72), (4, .int i)] [] zD g (A0 + 0 + (C / 64 - g.2.2.2 / 64)) (B0 + 0 + 2 * (C - g.2.2.2)) := by
  unfold nS_35 at h
  refine And.imp_right (fun kk => z_aload_n (pc := 1498) hG 1 rfl rfl dL_law_1498 kk) ?_
  replace h := zbind h
  obtain ⟨v1, hv1, h⟩ := h
  replace h := zchk_some h
  obtain ⟨hqv1, h⟩ := h
  refine And.imp_right (fun kk => z_cvI (A' := A0 + (C / 64 - g.2.2.2 / 64)) (B' := B0 + 2 * (C - g.2.2.2)) (nc := 0) (ns := 0) (rest := []) hG [] zc_X10 DL_0 (tX10_undo hl0  g hv1) zy_X10_undo ⟨w484, w485⟩ w483 dL_law_1499 rfl (Nat.le_of_ble_eq_true rfl) (by omega) (by omega) rfl (Nat.le_of_ble_eq_true rfl) rfl kk) ?_
  refine zpc (of_decide_eq_true hqv1) ?_
  refine And.imp_right (fun kk => z_aload_n (pc := 1502) hG 2 rfl rfl dL_law_1502 kk) ?_
  replace h := zbind h
  obtain ⟨v2, hv2, h⟩ := h
  replace h := zchk_some h
  obtain ⟨hqv2, h⟩ := h
  refine And.imp_right (fun kk => z_cvI (A' := A0 + (C / 64 - v1.2.2.2.2 / 64)) (B' := B0 + 2 * (C - v1.2.2.2.2)) (nc := 0) (ns := 0) (rest := [.int v1.1]) hG [] zc_X11 DL_42 (tX11_undo hl0  v1.2 hv2) zy_X11_undo ⟨w1984, w1985⟩ w1983 dL_law_1503 rfl (Nat.le_of_ble_eq_true rfl) (by omega) (by omega) rfl (Nat.le_of_ble_eq_true rfl) rfl kk) ?_
  refine zpc (of_decide_eq_true hqv2) ?_
  by_cases hc : v1.1 = v2.1
  rotate_left
  · replace h := zif_f hc h
    cases h
  replace h := zif_t hc h
  refine And.imp_right (fun kk => z_icmp_eq (pc := 1506) (tgt := 1939) hG dL_law_1506 rfl (fun _ => kk) (fun q => (q hc).elim)) ?_
  obtain rfl := Option.some.inj h
  exact kf
noncomputable def nS_36 (a : Nat → Int32) (g : zS) : Option zS :=
  (nL_pattern (a 1) (a 2) g).bind fun v1 => zchk (decide (v1.2.2.2.2 = g.2.2.2)) ((nX11_pattern (a 1) (a 2) v1.2).bind fun v2 => zchk (decide (v2.2.2.2.2 = v1.2.2.2.2)) ((nX11_thrown v2.2).bind fun v3 => if v3 = v1.1 then (if v1.1 = 0 then (if (lg_cmp (v2.2.2.1 72 (0 : Int32).toNatClampNeg) v2.1.toInt64) = 0 then (some v2.2) else (none)) else (some v2.2)) else (none)))
noncomputable def nU_36 (a : Nat → Int32) (g : zS) : Option zS :=
  (nL_pattern (a 1) (a 2) g).bind fun v1 => zchk (decide (v1.2.2.2.2 = g.2.2.2)) ((nX11_pattern (a 1) (a 2) v1.2).bind fun v2 => zchk (decide (v2.2.2.2.2 = v1.2.2.2.2)) (some v2.2))
set_option maxHeartbeats 1000000 in
theorem tS_36 {x : zXx} {i : Int32} {a : Nat → Int32} (hl0 : (zl0 x).flags = flags0) (hG : zG x cL_law 7 RL ret) (hPx : zPx x.2.2.2.2.1) (hS : zScr x i a) {A0 B0 C : Nat} (g : zS) {r : zS} (h : nU_36 a g = some r) (kf : zgr r C ∧ zK x 66 1939 [(0, .ref 950), (1, .ref 0), (2, .ref 42), (3, .ref 72), (4, .int i)] [] zD r (A0 + (C / 64 - r.2.2.2 / 64)) (B0 + 2 * (C - r.2.2.2))) : zgr g C ∧ zK x 66 1511 [(0, .ref 950), (1, .ref 0), (2, .ref 42), (3, .ref 72), (4, .int i)] [] zD g (A0 + 1 + (C / 64 - g.2.2.2 / 64)) (B0 + 6 + 2 * (C - g.2.2.2)) := by
  unfold nU_36 at h
  refine And.imp_right (fun kk => z_aload_n (pc := 1511) hG 1 rfl rfl dL_law_1511 kk) ?_
  refine And.imp_right (fun kk => z_aload_n (pc := 1512) hG 0 rfl rfl dL_law_1512 kk) ?_
  refine And.imp_right (fun kk => z_iload (pc := 1513) hG 4 rfl dL_law_1513 kk) ?_
  refine And.imp_right (fun kk => z_iconst (pc := 1515) hG kc_1 dL_law_1515 kk) ?_
  refine And.imp_right (fun kk => z_iadd (pc := 1516) hG dL_law_1516 kk) ?_
  refine And.imp_right (fun kk => z_scr (pc := 1517) hG hS 1 (by decide) rfl dL_law_1517 kk) ?_
  refine And.imp_right (fun kk => z_aload_n (pc := 1518) hG 0 rfl rfl dL_law_1518 kk) ?_
  refine And.imp_right (fun kk => z_iload (pc := 1519) hG 4 rfl dL_law_1519 kk) ?_
  refine And.imp_right (fun kk => z_iconst (pc := 1521) hG kc_2 dL_law_1521 kk) ?_
  refine And.imp_right (fun kk => z_iadd (pc := 1522) hG dL_law_1522 kk) ?_
  refine And.imp_right (fun kk => z_scr (pc := 1523) hG hS 2 (by decide) rfl dL_law_1523 kk) ?_
  refine And.imp_right (fun kk => z_aload_n (pc := 1524) hG 3 rfl rfl dL_law_1524 kk) ?_
  replace h := zbind h
  obtain ⟨v1, hv1, h⟩ := h
  replace h := zchk_some h
  obtain ⟨hqv1, h⟩ := h
  refine And.imp_right (fun kk => z_csH (A' := A0 + (C / 64 - g.2.2.2 / 64)) (B' := B0 + 2 * (C - g.2.2.2)) (rest := []) hG hPx [.ref 0, .int (a 1), .int (a 2), .ref 72] (tL_pattern hl0 (a 1) (a 2) g hv1) zyH_pattern w1313 w1312 dL_law_1525 rfl (Nat.le_of_ble_eq_true rfl) (by omega) (by omega) rfl (Nat.le_of_ble_eq_true rfl) rfl kk) ?_
  refine zpc (of_decide_eq_true hqv1) ?_
  refine And.imp_right (fun kk => z_istore (pc := 1528) (ls' := [(5, .int v1.1), (0, .ref 950), (1, .ref 0), (2, .ref 42), (3, .ref 72), (4, .int i)]) hG [0, 1, 2, 3, 4, 5] (by decide) rfl dL_law_1528 kk) ?_
  refine And.imp_right (fun kk => z_aload_n (pc := 1530) hG 3 rfl rfl dL_law_1530 kk) ?_
  refine And.imp_right (fun kk => z_aload_n (pc := 1531) hG 1 rfl rfl dL_law_1531 kk) ?_
  refine And.imp_right (fun kk => z_iload (pc := 1532) hG 5 rfl dL_law_1532 kk) ?_
  refine And.imp_right (fun kk => z_iconst (pc := 1534) hG kc_1 dL_law_1534 kk) ?_
  refine And.imp_right (fun kk => z_iadd (pc := 1535) hG dL_law_1535 kk) ?_
  refine And.imp_right (fun kk => z_scr (pc := 1536) hG hS 1 (by decide) rfl dL_law_1536 kk) ?_
  refine And.imp_right (fun kk => z_aload_n (pc := 1537) hG 1 rfl rfl dL_law_1537 kk) ?_
  refine And.imp_right (fun kk => z_iload (pc := 1538) hG 5 rfl dL_law_1538 kk) ?_
  refine And.imp_right (fun kk => z_iconst (pc := 1540) hG kc_2 dL_law_1540 kk) ?_
  refine And.imp_right (fun kk => z_iadd (pc := 1541) hG dL_law_1541 kk) ?_
  refine And.imp_right (fun kk => z_scr (pc := 1542) hG hS 2 (by decide) rfl dL_law_1542 kk) ?_
  replace h := zbind h
  obtain ⟨v2, hv2, h⟩ := h
  replace h := zchk_some h
  obtain ⟨hqv2, h⟩ := h
  refine And.imp_right (fun kk => z_cvI (A' := A0 + (C / 64 - v1.2.2.2.2 / 64)) (B' := B0 + 2 * (C - v1.2.2.2.2)) (nc := 0) (ns := 0) (rest := []) hG [.int (a 1), .int (a 2)] zc_X11 DL_42 (tX11_pattern hl0 (a 1) (a 2) v1.2 hv2) zy_X11_pattern ⟨w1988, w1989⟩ w1987 dL_law_1543 rfl (Nat.le_of_ble_eq_true rfl) (by omega) (by omega) rfl (Nat.le_of_ble_eq_true rfl) rfl kk) ?_
  refine zpc (of_decide_eq_true hqv2) ?_
  refine And.imp_right (fun kk => z_istore (pc := 1546) (ls' := [(6, .int v2.1), (5, .int v1.1), (0, .ref 950), (1, .ref 0), (2, .ref 42), (3, .ref 72), (4, .int i)]) hG [0, 1, 2, 3, 4, 5, 6] (by decide) rfl dL_law_1546 kk) ?_
  refine And.imp_right (fun kk => z_goto (pc := 1548) (tgt := 1939) hG dL_law_1548 rfl kk) ?_
  obtain rfl := Option.some.inj h
  refine And.imp_right (fun kk => z_sub (ls' := [(0, .ref 950), (1, .ref 0), (2, .ref 42), (3, .ref 72), (4, .int i)]) [2, 3, 4, 5, 6] rfl kk) ?_
  exact kf
noncomputable def nS_37 (a : Nat → Int32) (g : zS) : Option zS :=
  (nX10_patterns g).bind fun v1 => zchk (decide (v1.2.2.2.2 = g.2.2.2)) ((nX11_patterns v1.2).bind fun v2 => zchk (decide (v2.2.2.2.2 = v1.2.2.2.2)) (if v1.1 = v2.1 then (some v2.2) else (none)))
noncomputable def nU_37 (a : Nat → Int32) (g : zS) : Option zS :=
  (nX10_patterns g).bind fun v1 => zchk (decide (v1.2.2.2.2 = g.2.2.2)) ((nX11_patterns v1.2).bind fun v2 => zchk (decide (v2.2.2.2.2 = v1.2.2.2.2)) (some v2.2))
set_option maxHeartbeats 1000000 in
theorem tS_37 {x : zXx} {i : Int32} {a : Nat → Int32} (hl0 : (zl0 x).flags = flags0) (hG : zG x cL_law 7 RL ret) (hPx : zPx x.2.2.2.2.1) (hS : zScr x i a) {A0 B0 C : Nat} (g : zS) {r : zS} (h : nU_37 a g = some r) (kf : zgr r C ∧ zK x 66 1939 [(0, .ref 950), (1, .ref 0), (2, .ref 42), (3, .ref 72), (4, .int i)] [] zD r (A0 + (C / 64 - r.2.2.2 / 64)) (B0 + 2 * (C - r.2.2.2))) : zgr g C ∧ zK x 66 1551 [(0, .ref 950), (1, .ref 0), (2, .ref 42), (3, .ref 72), (4, .int i)] [] zD g (A0 + 0 + (C / 64 - g.2.2.2 / 64)) (B0 + 0 + 2 * (C - g.2.2.2)) := by
  unfold nU_37 at h
  refine And.imp_right (fun kk => z_aload_n (pc := 1551) hG 1 rfl rfl dL_law_1551 kk) ?_
  replace h := zbind h
  obtain ⟨v1, hv1, h⟩ := h
  replace h := zchk_some h
  obtain ⟨hqv1, h⟩ := h
  refine And.imp_right (fun kk => z_cvI (A' := A0 + (C / 64 - g.2.2.2 / 64)) (B' := B0 + 2 * (C - g.2.2.2)) (nc := 0) (ns := 0) (rest := []) hG [] zc_X10 DL_0 (tX10_patterns hl0  g hv1) zy_X10_patterns ⟨w493, w494⟩ w492 dL_law_1552 rfl (Nat.le_of_ble_eq_true rfl) (by omega) (by omega) rfl (Nat.le_of_ble_eq_true rfl) rfl kk) ?_
  refine zpc (of_decide_eq_true hqv1) ?_
  refine And.imp_right (fun kk => z_pop (pc := 1555) hG rfl dL_law_1555 kk) ?_
  refine And.imp_right (fun kk => z_aload_n (pc := 1556) hG 2 rfl rfl dL_law_1556 kk) ?_
  replace h := zbind h
  obtain ⟨v2, hv2, h⟩ := h
  replace h := zchk_some h
  obtain ⟨hqv2, h⟩ := h
  refine And.imp_right (fun kk => z_cvI (A' := A0 + (C / 64 - v1.2.2.2.2 / 64)) (B' := B0 + 2 * (C - v1.2.2.2.2)) (nc := 0) (ns := 0) (rest := []) hG [] zc_X11 DL_42 (tX11_patterns hl0  v1.2 hv2) zy_X11_patterns ⟨w2000, w2001⟩ w1999 dL_law_1557 rfl (Nat.le_of_ble_eq_true rfl) (by omega) (by omega) rfl (Nat.le_of_ble_eq_true rfl) rfl kk) ?_
  refine zpc (of_decide_eq_true hqv2) ?_
  refine And.imp_right (fun kk => z_pop (pc := 1560) hG rfl dL_law_1560 kk) ?_
  refine And.imp_right (fun kk => z_goto (pc := 1561) (tgt := 1939) hG dL_law_1561 rfl kk) ?_
  obtain rfl := Option.some.inj h
  exact kf
noncomputable def nS_38 (a : Nat → Int32) (g : zS) : Option zS :=
  if (a 2) = 0 then ((nL_alike (a 1) (0 : Int32) g).bind fun v1 => zchk (decide (v1.2.2.2.2 = g.2.2.2)) (if (a 2) = 0 then ((nX11_alike (a 1) (0 : Int32) v1.2).bind fun v2 => zchk (decide (v2.2.2.2.2 = v1.2.2.2.2)) ((nX11_thrown v2.2).bind fun v3 => if v3 = v1.1 then (if v1.1 = 0 then (if (lg_cmp (v2.2.2.1 72 (0 : Int32).toNatClampNeg) v2.1.toInt64) = 0 then (some v2.2) else (none)) else (some v2.2)) else (none))) else ((nX11_alike (a 1) (1 : Int32) v1.2).bind fun v4 => zchk (decide (v4.2.2.2.2 = v1.2.2.2.2)) ((nX11_thrown v4.2).bind fun v5 => if v5 = v1.1 then (if v1.1 = 0 then (if (lg_cmp (v4.2.2.1 72 (0 : Int32).toNatClampNeg) v4.1.toInt64) = 0 then (some v4.2) else (none)) else (some v4.2)) else (none))))) else ((nL_alike (a 1) (1 : Int32) g).bind fun v6 => zchk (decide (v6.2.2.2.2 = g.2.2.2)) (if (a 2) = 0 then ((nX11_alike (a 1) (0 : Int32) v6.2).bind fun v7 => zchk (decide (v7.2.2.2.2 = v6.2.2.2.2)) ((nX11_thrown v7.2).bind fun v8 => if v8 = v6.1 then (if v6.1 = 0 then (if (lg_cmp (v7.2.2.1 72 (0 : Int32).toNatClampNeg) v7.1.toInt64) = 0 then (some v7.2) else (none)) else (some v7.2)) else (none))) else ((nX11_alike (a 1) (1 : Int32) v6.2).bind fun v9 => zchk (decide (v9.2.2.2.2 = v6.2.2.2.2)) ((nX11_thrown v9.2).bind fun v10 => if v10 = v6.1 then (if v6.1 = 0 then (if (lg_cmp (v9.2.2.1 72 (0 : Int32).toNatClampNeg) v9.1.toInt64) = 0 then (some v9.2) else (none)) else (some v9.2)) else (none)))))
noncomputable def nU_38 (a : Nat → Int32) (g : zS) : Option zS :=
  if (a 2) = 0 then ((nL_alike (a 1) (0 : Int32) g).bind fun v1 => zchk (decide (v1.2.2.2.2 = g.2.2.2)) (if (a 2) = 0 then ((nX11_alike (a 1) (0 : Int32) v1.2).bind fun v2 => zchk (decide (v2.2.2.2.2 = v1.2.2.2.2)) (some v2.2)) else ((nX11_alike (a 1) (1 : Int32) v1.2).bind fun v3 => zchk (decide (v3.2.2.2.2 = v1.2.2.2.2)) (some v3.2)))) else ((nL_alike (a 1) (1 : Int32) g).bind fun v4 => zchk (decide (v4.2.2.2.2 = g.2.2.2)) (if (a 2) = 0 then ((nX11_alike (a 1) (0 : Int32) v4.2).bind fun v5 => zchk (decide (v5.2.2.2.2 = v4.2.2.2.2)) (some v5.2)) else ((nX11_alike (a 1) (1 : Int32) v4.2).bind fun v6 => zchk (decide (v6.2.2.2.2 = v4.2.2.2.2)) (some v6.2))))
set_option maxHeartbeats 1000000 in
theorem tS_38 {x : zXx} {i : Int32} {a : Nat → Int32} (hl0 : (zl0 x).flags = flags0) (hG : zG x cL_law 7 RL ret) (hPx : zPx x.2.2.2.2.1) (hS : zScr x i a) {A0 B0 C : Nat} (g : zS) {r : zS} (h : nU_38 a g = some r) (kf : zgr r C ∧ zK x 66 1939 [(0, .ref 950), (1, .ref 0), (2, .ref 42), (3, .ref 72), (4, .int i)] [] zD r (A0 + (C / 64 - r.2.2.2 / 64)) (B0 + 2 * (C - r.2.2.2))) : zgr g C ∧ zK x 66 1564 [(0, .ref 950), (1, .ref 0), (2, .ref 42), (3, .ref 72), (4, .int i)] [] zD g (A0 + 1 + (C / 64 - g.2.2.2 / 64)) (B0 + 6 + 2 * (C - g.2.2.2)) := by
  unfold nU_38 at h
  refine And.imp_right (fun kk => z_aload_n (pc := 1564) hG 1 rfl rfl dL_law_1564 kk) ?_
  refine And.imp_right (fun kk => z_aload_n (pc := 1565) hG 0 rfl rfl dL_law_1565 kk) ?_
  refine And.imp_right (fun kk => z_iload (pc := 1566) hG 4 rfl dL_law_1566 kk) ?_
  refine And.imp_right (fun kk => z_iconst (pc := 1568) hG kc_1 dL_law_1568 kk) ?_
  refine And.imp_right (fun kk => z_iadd (pc := 1569) hG dL_law_1569 kk) ?_
  refine And.imp_right (fun kk => z_scr (pc := 1570) hG hS 1 (by decide) rfl dL_law_1570 kk) ?_
  refine And.imp_right (fun kk => z_aload_n (pc := 1571) hG 0 rfl rfl dL_law_1571 kk) ?_
  refine And.imp_right (fun kk => z_iload (pc := 1572) hG 4 rfl dL_law_1572 kk) ?_
  refine And.imp_right (fun kk => z_iconst (pc := 1574) hG kc_2 dL_law_1574 kk) ?_
  refine And.imp_right (fun kk => z_iadd (pc := 1575) hG dL_law_1575 kk) ?_
  refine And.imp_right (fun kk => z_scr (pc := 1576) hG hS 2 (by decide) rfl dL_law_1576 kk) ?_
  refine zbr (c := (a 2) = 0) (fun hc => ?_) (fun hc => ?_) (fun k1 k2 => z_if_eq (pc := 1577) (tgt := 1584) hG dL_law_1577 rfl k1 k2)
  · replace h := zif_t hc h
    refine And.imp_right (fun kk => z_iconst (pc := 1584) hG kc_0 dL_law_1584 kk) ?_
    refine And.imp_right (fun kk => z_aload_n (pc := 1585) hG 3 rfl rfl dL_law_1585 kk) ?_
    replace h := zbind h
    obtain ⟨v1, hv1, h⟩ := h
    replace h := zchk_some h
    obtain ⟨hqv1, h⟩ := h
    refine And.imp_right (fun kk => z_csH (A' := A0 + (C / 64 - g.2.2.2 / 64)) (B' := B0 + 2 * (C - g.2.2.2)) (rest := []) hG hPx [.ref 0, .int (a 1), .int (0 : Int32), .ref 72] (tL_alike hl0 (a 1) (0 : Int32) g hv1) zyH_alike w1332 w1331 dL_law_1586 rfl (Nat.le_of_ble_eq_true rfl) (by omega) (by omega) rfl (Nat.le_of_ble_eq_true rfl) rfl kk) ?_
    refine zpc (of_decide_eq_true hqv1) ?_
    refine And.imp_right (fun kk => z_istore (pc := 1589) (ls' := [(5, .int v1.1), (0, .ref 950), (1, .ref 0), (2, .ref 42), (3, .ref 72), (4, .int i)]) hG [0, 1, 2, 3, 4, 5] (by decide) rfl dL_law_1589 kk) ?_
    refine And.imp_right (fun kk => z_aload_n (pc := 1591) hG 3 rfl rfl dL_law_1591 kk) ?_
    refine And.imp_right (fun kk => z_aload_n (pc := 1592) hG 1 rfl rfl dL_law_1592 kk) ?_
    refine And.imp_right (fun kk => z_iload (pc := 1593) hG 5 rfl dL_law_1593 kk) ?_
    refine And.imp_right (fun kk => z_iconst (pc := 1595) hG kc_1 dL_law_1595 kk) ?_
    refine And.imp_right (fun kk => z_iadd (pc := 1596) hG dL_law_1596 kk) ?_
    refine And.imp_right (fun kk => z_scr (pc := 1597) hG hS 1 (by decide) rfl dL_law_1597 kk) ?_
    refine And.imp_right (fun kk => z_aload_n (pc := 1598) hG 1 rfl rfl dL_law_1598 kk) ?_
    refine And.imp_right (fun kk => z_iload (pc := 1599) hG 5 rfl dL_law_1599 kk) ?_
    refine And.imp_right (fun kk => z_iconst (pc := 1601) hG kc_2 dL_law_1601 kk) ?_
    refine And.imp_right (fun kk => z_iadd (pc := 1602) hG dL_law_1602 kk) ?_
    refine And.imp_right (fun kk => z_scr (pc := 1603) hG hS 2 (by decide) rfl dL_law_1603 kk) ?_
    refine zbr (c := (a 2) = 0) (fun hc => ?_) (fun hc => ?_) (fun k1 k2 => z_if_eq (pc := 1604) (tgt := 1611) hG dL_law_1604 rfl k1 k2)
    · replace h := zif_t hc h
      refine And.imp_right (fun kk => z_iconst (pc := 1611) hG kc_0 dL_law_1611 kk) ?_
      replace h := zbind h
      obtain ⟨v2, hv2, h⟩ := h
      replace h := zchk_some h
      obtain ⟨hqv2, h⟩ := h
      refine And.imp_right (fun kk => z_cvI (A' := A0 + (C / 64 - v1.2.2.2.2 / 64)) (B' := B0 + 2 * (C - v1.2.2.2.2)) (nc := 0) (ns := 0) (rest := []) hG [.int (a 1), .int (0 : Int32)] zc_X11 DL_42 (tX11_alike hl0 (a 1) (0 : Int32) v1.2 hv2) zy_X11_alike ⟨w2004, w2005⟩ w2003 dL_law_1612 rfl (Nat.le_of_ble_eq_true rfl) (by omega) (by omega) rfl (Nat.le_of_ble_eq_true rfl) rfl kk) ?_
      refine zpc (of_decide_eq_true hqv2) ?_
      refine And.imp_right (fun kk => z_istore (pc := 1615) (ls' := [(6, .int v2.1), (5, .int v1.1), (0, .ref 950), (1, .ref 0), (2, .ref 42), (3, .ref 72), (4, .int i)]) hG [0, 1, 2, 3, 4, 5, 6] (by decide) rfl dL_law_1615 kk) ?_
      refine And.imp_right (fun kk => z_goto (pc := 1617) (tgt := 1939) hG dL_law_1617 rfl kk) ?_
      obtain rfl := Option.some.inj h
      refine And.imp_right (fun kk => z_sub (ls' := [(0, .ref 950), (1, .ref 0), (2, .ref 42), (3, .ref 72), (4, .int i)]) [2, 3, 4, 5, 6] rfl kk) ?_
      exact kf
    · replace h := zif_f hc h
      refine And.imp_right (fun kk => z_iconst (pc := 1607) hG kc_1 dL_law_1607 kk) ?_
      refine And.imp_right (fun kk => z_goto (pc := 1608) (tgt := 1612) hG dL_law_1608 rfl kk) ?_
      replace h := zbind h
      obtain ⟨v3, hv3, h⟩ := h
      replace h := zchk_some h
      obtain ⟨hqv3, h⟩ := h
      refine And.imp_right (fun kk => z_cvI (A' := A0 + (C / 64 - v1.2.2.2.2 / 64)) (B' := B0 + 2 * (C - v1.2.2.2.2)) (nc := 0) (ns := 0) (rest := []) hG [.int (a 1), .int (1 : Int32)] zc_X11 DL_42 (tX11_alike hl0 (a 1) (1 : Int32) v1.2 hv3) zy_X11_alike ⟨w2004, w2005⟩ w2003 dL_law_1612 rfl (Nat.le_of_ble_eq_true rfl) (by omega) (by omega) rfl (Nat.le_of_ble_eq_true rfl) rfl kk) ?_
      refine zpc (of_decide_eq_true hqv3) ?_
      refine And.imp_right (fun kk => z_istore (pc := 1615) (ls' := [(6, .int v3.1), (5, .int v1.1), (0, .ref 950), (1, .ref 0), (2, .ref 42), (3, .ref 72), (4, .int i)]) hG [0, 1, 2, 3, 4, 5, 6] (by decide) rfl dL_law_1615 kk) ?_
      refine And.imp_right (fun kk => z_goto (pc := 1617) (tgt := 1939) hG dL_law_1617 rfl kk) ?_
      obtain rfl := Option.some.inj h
      refine And.imp_right (fun kk => z_sub (ls' := [(0, .ref 950), (1, .ref 0), (2, .ref 42), (3, .ref 72), (4, .int i)]) [2, 3, 4, 5, 6] rfl kk) ?_
      exact kf
  · replace h := zif_f hc h
    refine And.imp_right (fun kk => z_iconst (pc := 1580) hG kc_1 dL_law_1580 kk) ?_
    refine And.imp_right (fun kk => z_goto (pc := 1581) (tgt := 1585) hG dL_law_1581 rfl kk) ?_
    refine And.imp_right (fun kk => z_aload_n (pc := 1585) hG 3 rfl rfl dL_law_1585 kk) ?_
    replace h := zbind h
    obtain ⟨v4, hv4, h⟩ := h
    replace h := zchk_some h
    obtain ⟨hqv4, h⟩ := h
    refine And.imp_right (fun kk => z_csH (A' := A0 + (C / 64 - g.2.2.2 / 64)) (B' := B0 + 2 * (C - g.2.2.2)) (rest := []) hG hPx [.ref 0, .int (a 1), .int (1 : Int32), .ref 72] (tL_alike hl0 (a 1) (1 : Int32) g hv4) zyH_alike w1332 w1331 dL_law_1586 rfl (Nat.le_of_ble_eq_true rfl) (by omega) (by omega) rfl (Nat.le_of_ble_eq_true rfl) rfl kk) ?_
    refine zpc (of_decide_eq_true hqv4) ?_
    refine And.imp_right (fun kk => z_istore (pc := 1589) (ls' := [(5, .int v4.1), (0, .ref 950), (1, .ref 0), (2, .ref 42), (3, .ref 72), (4, .int i)]) hG [0, 1, 2, 3, 4, 5] (by decide) rfl dL_law_1589 kk) ?_
    refine And.imp_right (fun kk => z_aload_n (pc := 1591) hG 3 rfl rfl dL_law_1591 kk) ?_
    refine And.imp_right (fun kk => z_aload_n (pc := 1592) hG 1 rfl rfl dL_law_1592 kk) ?_
    refine And.imp_right (fun kk => z_iload (pc := 1593) hG 5 rfl dL_law_1593 kk) ?_
    refine And.imp_right (fun kk => z_iconst (pc := 1595) hG kc_1 dL_law_1595 kk) ?_
    refine And.imp_right (fun kk => z_iadd (pc := 1596) hG dL_law_1596 kk) ?_
    refine And.imp_right (fun kk => z_scr (pc := 1597) hG hS 1 (by decide) rfl dL_law_1597 kk) ?_
    refine And.imp_right (fun kk => z_aload_n (pc := 1598) hG 1 rfl rfl dL_law_1598 kk) ?_
    refine And.imp_right (fun kk => z_iload (pc := 1599) hG 5 rfl dL_law_1599 kk) ?_
    refine And.imp_right (fun kk => z_iconst (pc := 1601) hG kc_2 dL_law_1601 kk) ?_
    refine And.imp_right (fun kk => z_iadd (pc := 1602) hG dL_law_1602 kk) ?_
    refine And.imp_right (fun kk => z_scr (pc := 1603) hG hS 2 (by decide) rfl dL_law_1603 kk) ?_
    refine zbr (c := (a 2) = 0) (fun hc => ?_) (fun hc => ?_) (fun k1 k2 => z_if_eq (pc := 1604) (tgt := 1611) hG dL_law_1604 rfl k1 k2)
    · replace h := zif_t hc h
      refine And.imp_right (fun kk => z_iconst (pc := 1611) hG kc_0 dL_law_1611 kk) ?_
      replace h := zbind h
      obtain ⟨v5, hv5, h⟩ := h
      replace h := zchk_some h
      obtain ⟨hqv5, h⟩ := h
      refine And.imp_right (fun kk => z_cvI (A' := A0 + (C / 64 - v4.2.2.2.2 / 64)) (B' := B0 + 2 * (C - v4.2.2.2.2)) (nc := 0) (ns := 0) (rest := []) hG [.int (a 1), .int (0 : Int32)] zc_X11 DL_42 (tX11_alike hl0 (a 1) (0 : Int32) v4.2 hv5) zy_X11_alike ⟨w2004, w2005⟩ w2003 dL_law_1612 rfl (Nat.le_of_ble_eq_true rfl) (by omega) (by omega) rfl (Nat.le_of_ble_eq_true rfl) rfl kk) ?_
      refine zpc (of_decide_eq_true hqv5) ?_
      refine And.imp_right (fun kk => z_istore (pc := 1615) (ls' := [(6, .int v5.1), (5, .int v4.1), (0, .ref 950), (1, .ref 0), (2, .ref 42), (3, .ref 72), (4, .int i)]) hG [0, 1, 2, 3, 4, 5, 6] (by decide) rfl dL_law_1615 kk) ?_
      refine And.imp_right (fun kk => z_goto (pc := 1617) (tgt := 1939) hG dL_law_1617 rfl kk) ?_
      obtain rfl := Option.some.inj h
      refine And.imp_right (fun kk => z_sub (ls' := [(0, .ref 950), (1, .ref 0), (2, .ref 42), (3, .ref 72), (4, .int i)]) [2, 3, 4, 5, 6] rfl kk) ?_
      exact kf
    · replace h := zif_f hc h
      refine And.imp_right (fun kk => z_iconst (pc := 1607) hG kc_1 dL_law_1607 kk) ?_
      refine And.imp_right (fun kk => z_goto (pc := 1608) (tgt := 1612) hG dL_law_1608 rfl kk) ?_
      replace h := zbind h
      obtain ⟨v6, hv6, h⟩ := h
      replace h := zchk_some h
      obtain ⟨hqv6, h⟩ := h
      refine And.imp_right (fun kk => z_cvI (A' := A0 + (C / 64 - v4.2.2.2.2 / 64)) (B' := B0 + 2 * (C - v4.2.2.2.2)) (nc := 0) (ns := 0) (rest := []) hG [.int (a 1), .int (1 : Int32)] zc_X11 DL_42 (tX11_alike hl0 (a 1) (1 : Int32) v4.2 hv6) zy_X11_alike ⟨w2004, w2005⟩ w2003 dL_law_1612 rfl (Nat.le_of_ble_eq_true rfl) (by omega) (by omega) rfl (Nat.le_of_ble_eq_true rfl) rfl kk) ?_
      refine zpc (of_decide_eq_true hqv6) ?_
      refine And.imp_right (fun kk => z_istore (pc := 1615) (ls' := [(6, .int v6.1), (5, .int v4.1), (0, .ref 950), (1, .ref 0), (2, .ref 42), (3, .ref 72), (4, .int i)]) hG [0, 1, 2, 3, 4, 5, 6] (by decide) rfl dL_law_1615 kk) ?_
      refine And.imp_right (fun kk => z_goto (pc := 1617) (tgt := 1939) hG dL_law_1617 rfl kk) ?_
      obtain rfl := Option.some.inj h
      refine And.imp_right (fun kk => z_sub (ls' := [(0, .ref 950), (1, .ref 0), (2, .ref 42), (3, .ref 72), (4, .int i)]) [2, 3, 4, 5, 6] rfl kk) ?_
      exact kf
noncomputable def nS_39 (a : Nat → Int32) (g : zS) : Option zS :=
  (nL_near (a 1) (a 2) g).bind fun v1 => zchk (decide (v1.2.2.2.2 = g.2.2.2)) ((nX11_near (a 1) (a 2) v1.2).bind fun v2 => zchk (decide (v2.2.2.2.2 = v1.2.2.2.2)) ((nX11_thrown v2.2).bind fun v3 => if v3 = v1.1 then (if v1.1 = 0 then (if (lg_cmp (v2.2.2.1 72 (0 : Int32).toNatClampNeg) v2.1.toInt64) = 0 then (some v2.2) else (none)) else (some v2.2)) else (none)))
noncomputable def nU_39 (a : Nat → Int32) (g : zS) : Option zS :=
  (nL_near (a 1) (a 2) g).bind fun v1 => zchk (decide (v1.2.2.2.2 = g.2.2.2)) ((nX11_near (a 1) (a 2) v1.2).bind fun v2 => zchk (decide (v2.2.2.2.2 = v1.2.2.2.2)) (some v2.2))
set_option maxHeartbeats 1000000 in
theorem tS_39 {x : zXx} {i : Int32} {a : Nat → Int32} (hl0 : (zl0 x).flags = flags0) (hG : zG x cL_law 7 RL ret) (hPx : zPx x.2.2.2.2.1) (hS : zScr x i a) {A0 B0 C : Nat} (g : zS) {r : zS} (h : nU_39 a g = some r) (kf : zgr r C ∧ zK x 66 1939 [(0, .ref 950), (1, .ref 0), (2, .ref 42), (3, .ref 72), (4, .int i)] [] zD r (A0 + (C / 64 - r.2.2.2 / 64)) (B0 + 2 * (C - r.2.2.2))) : zgr g C ∧ zK x 66 1620 [(0, .ref 950), (1, .ref 0), (2, .ref 42), (3, .ref 72), (4, .int i)] [] zD g (A0 + 2 + (C / 64 - g.2.2.2 / 64)) (B0 + 12 + 2 * (C - g.2.2.2)) := by
  unfold nU_39 at h
  refine And.imp_right (fun kk => z_aload_n (pc := 1620) hG 1 rfl rfl dL_law_1620 kk) ?_
  refine And.imp_right (fun kk => z_aload_n (pc := 1621) hG 0 rfl rfl dL_law_1621 kk) ?_
  refine And.imp_right (fun kk => z_iload (pc := 1622) hG 4 rfl dL_law_1622 kk) ?_
  refine And.imp_right (fun kk => z_iconst (pc := 1624) hG kc_1 dL_law_1624 kk) ?_
  refine And.imp_right (fun kk => z_iadd (pc := 1625) hG dL_law_1625 kk) ?_
  refine And.imp_right (fun kk => z_scr (pc := 1626) hG hS 1 (by decide) rfl dL_law_1626 kk) ?_
  refine And.imp_right (fun kk => z_aload_n (pc := 1627) hG 0 rfl rfl dL_law_1627 kk) ?_
  refine And.imp_right (fun kk => z_iload (pc := 1628) hG 4 rfl dL_law_1628 kk) ?_
  refine And.imp_right (fun kk => z_iconst (pc := 1630) hG kc_2 dL_law_1630 kk) ?_
  refine And.imp_right (fun kk => z_iadd (pc := 1631) hG dL_law_1631 kk) ?_
  refine And.imp_right (fun kk => z_scr (pc := 1632) hG hS 2 (by decide) rfl dL_law_1632 kk) ?_
  refine And.imp_right (fun kk => z_aload_n (pc := 1633) hG 3 rfl rfl dL_law_1633 kk) ?_
  replace h := zbind h
  obtain ⟨v1, hv1, h⟩ := h
  replace h := zchk_some h
  obtain ⟨hqv1, h⟩ := h
  refine And.imp_right (fun kk => z_csH (A' := A0 + (C / 64 - g.2.2.2 / 64)) (B' := B0 + 2 * (C - g.2.2.2)) (rest := []) hG hPx [.ref 0, .int (a 1), .int (a 2), .ref 72] (tL_near hl0 (a 1) (a 2) g hv1) zyH_near w1347 w1346 dL_law_1634 rfl (Nat.le_of_ble_eq_true rfl) (by omega) (by omega) rfl (Nat.le_of_ble_eq_true rfl) rfl kk) ?_
  refine zpc (of_decide_eq_true hqv1) ?_
  refine And.imp_right (fun kk => z_istore (pc := 1637) (ls' := [(5, .int v1.1), (0, .ref 950), (1, .ref 0), (2, .ref 42), (3, .ref 72), (4, .int i)]) hG [0, 1, 2, 3, 4, 5] (by decide) rfl dL_law_1637 kk) ?_
  refine And.imp_right (fun kk => z_aload_n (pc := 1639) hG 3 rfl rfl dL_law_1639 kk) ?_
  refine And.imp_right (fun kk => z_aload_n (pc := 1640) hG 1 rfl rfl dL_law_1640 kk) ?_
  refine And.imp_right (fun kk => z_iload (pc := 1641) hG 5 rfl dL_law_1641 kk) ?_
  refine And.imp_right (fun kk => z_iconst (pc := 1643) hG kc_1 dL_law_1643 kk) ?_
  refine And.imp_right (fun kk => z_iadd (pc := 1644) hG dL_law_1644 kk) ?_
  refine And.imp_right (fun kk => z_scr (pc := 1645) hG hS 1 (by decide) rfl dL_law_1645 kk) ?_
  refine And.imp_right (fun kk => z_aload_n (pc := 1646) hG 1 rfl rfl dL_law_1646 kk) ?_
  refine And.imp_right (fun kk => z_iload (pc := 1647) hG 5 rfl dL_law_1647 kk) ?_
  refine And.imp_right (fun kk => z_iconst (pc := 1649) hG kc_2 dL_law_1649 kk) ?_
  refine And.imp_right (fun kk => z_iadd (pc := 1650) hG dL_law_1650 kk) ?_
  refine And.imp_right (fun kk => z_scr (pc := 1651) hG hS 2 (by decide) rfl dL_law_1651 kk) ?_
  replace h := zbind h
  obtain ⟨v2, hv2, h⟩ := h
  replace h := zchk_some h
  obtain ⟨hqv2, h⟩ := h
  refine And.imp_right (fun kk => z_cvI (A' := A0 + (C / 64 - v1.2.2.2.2 / 64)) (B' := B0 + 2 * (C - v1.2.2.2.2)) (nc := 0) (ns := 0) (rest := []) hG [.int (a 1), .int (a 2)] zc_X11 DL_42 (tX11_near hl0 (a 1) (a 2) v1.2 hv2) zy_X11_near ⟨w2012, w2013⟩ w2011 dL_law_1652 rfl (Nat.le_of_ble_eq_true rfl) (by omega) (by omega) rfl (Nat.le_of_ble_eq_true rfl) rfl kk) ?_
  refine zpc (of_decide_eq_true hqv2) ?_
  refine And.imp_right (fun kk => z_istore (pc := 1655) (ls' := [(6, .int v2.1), (5, .int v1.1), (0, .ref 950), (1, .ref 0), (2, .ref 42), (3, .ref 72), (4, .int i)]) hG [0, 1, 2, 3, 4, 5, 6] (by decide) rfl dL_law_1655 kk) ?_
  refine And.imp_right (fun kk => z_goto (pc := 1657) (tgt := 1939) hG dL_law_1657 rfl kk) ?_
  obtain rfl := Option.some.inj h
  refine And.imp_right (fun kk => z_sub (ls' := [(0, .ref 950), (1, .ref 0), (2, .ref 42), (3, .ref 72), (4, .int i)]) [2, 3, 4, 5, 6] rfl kk) ?_
  exact kf
noncomputable def nS_40 (a : Nat → Int32) (g : zS) : Option zS :=
  (nL_bunch (a 1) (a 2) g).bind fun v1 => zchk (decide (v1.2.2.2.2 = g.2.2.2)) ((nX11_bunch (a 1) (a 2) v1.2).bind fun v2 => zchk (decide (v2.2.2.2.2 = v1.2.2.2.2)) ((nX11_thrown v2.2).bind fun v3 => if v3 = v1.1 then (if v1.1 = 0 then (if (lg_cmp (v2.2.2.1 72 (0 : Int32).toNatClampNeg) v2.1.toInt64) = 0 then (some v2.2) else (none)) else (some v2.2)) else (none)))
noncomputable def nU_40 (a : Nat → Int32) (g : zS) : Option zS :=
  (nL_bunch (a 1) (a 2) g).bind fun v1 => zchk (decide (v1.2.2.2.2 = g.2.2.2)) ((nX11_bunch (a 1) (a 2) v1.2).bind fun v2 => zchk (decide (v2.2.2.2.2 = v1.2.2.2.2)) (some v2.2))
set_option maxHeartbeats 1000000 in
theorem tS_40 {x : zXx} {i : Int32} {a : Nat → Int32} (hl0 : (zl0 x).flags = flags0) (hG : zG x cL_law 7 RL ret) (hPx : zPx x.2.2.2.2.1) (hS : zScr x i a) {A0 B0 C : Nat} (g : zS) {r : zS} (h : nU_40 a g = some r) (kf : zgr r C ∧ zK x 66 1939 [(0, .ref 950), (1, .ref 0), (2, .ref 42), (3, .ref 72), (4, .int i)] [] zD r (A0 + (C / 64 - r.2.2.2 / 64)) (B0 + 2 * (C - r.2.2.2))) : zgr g C ∧ zK x 66 1660 [(0, .ref 950), (1, .ref 0), (2, .ref 42), (3, .ref 72), (4, .int i)] [] zD g (A0 + 1 + (C / 64 - g.2.2.2 / 64)) (B0 + 6 + 2 * (C - g.2.2.2)) := by
  unfold nU_40 at h
  refine And.imp_right (fun kk => z_aload_n (pc := 1660) hG 1 rfl rfl dL_law_1660 kk) ?_
  refine And.imp_right (fun kk => z_aload_n (pc := 1661) hG 0 rfl rfl dL_law_1661 kk) ?_
  refine And.imp_right (fun kk => z_iload (pc := 1662) hG 4 rfl dL_law_1662 kk) ?_
  refine And.imp_right (fun kk => z_iconst (pc := 1664) hG kc_1 dL_law_1664 kk) ?_
  refine And.imp_right (fun kk => z_iadd (pc := 1665) hG dL_law_1665 kk) ?_
  refine And.imp_right (fun kk => z_scr (pc := 1666) hG hS 1 (by decide) rfl dL_law_1666 kk) ?_
  refine And.imp_right (fun kk => z_aload_n (pc := 1667) hG 0 rfl rfl dL_law_1667 kk) ?_
  refine And.imp_right (fun kk => z_iload (pc := 1668) hG 4 rfl dL_law_1668 kk) ?_
  refine And.imp_right (fun kk => z_iconst (pc := 1670) hG kc_2 dL_law_1670 kk) ?_
  refine And.imp_right (fun kk => z_iadd (pc := 1671) hG dL_law_1671 kk) ?_
  refine And.imp_right (fun kk => z_scr (pc := 1672) hG hS 2 (by decide) rfl dL_law_1672 kk) ?_
  refine And.imp_right (fun kk => z_aload_n (pc := 1673) hG 3 rfl rfl dL_law_1673 kk) ?_
  replace h := zbind h
  obtain ⟨v1, hv1, h⟩ := h
  replace h := zchk_some h
  obtain ⟨hqv1, h⟩ := h
  refine And.imp_right (fun kk => z_csH (A' := A0 + (C / 64 - g.2.2.2 / 64)) (B' := B0 + 2 * (C - g.2.2.2)) (rest := []) hG hPx [.ref 0, .int (a 1), .int (a 2), .ref 72] (tL_bunch hl0 (a 1) (a 2) g hv1) zyH_bunch w1355 w1354 dL_law_1674 rfl (Nat.le_of_ble_eq_true rfl) (by omega) (by omega) rfl (Nat.le_of_ble_eq_true rfl) rfl kk) ?_
  refine zpc (of_decide_eq_true hqv1) ?_
  refine And.imp_right (fun kk => z_istore (pc := 1677) (ls' := [(5, .int v1.1), (0, .ref 950), (1, .ref 0), (2, .ref 42), (3, .ref 72), (4, .int i)]) hG [0, 1, 2, 3, 4, 5] (by decide) rfl dL_law_1677 kk) ?_
  refine And.imp_right (fun kk => z_aload_n (pc := 1679) hG 3 rfl rfl dL_law_1679 kk) ?_
  refine And.imp_right (fun kk => z_aload_n (pc := 1680) hG 1 rfl rfl dL_law_1680 kk) ?_
  refine And.imp_right (fun kk => z_iload (pc := 1681) hG 5 rfl dL_law_1681 kk) ?_
  refine And.imp_right (fun kk => z_iconst (pc := 1683) hG kc_1 dL_law_1683 kk) ?_
  refine And.imp_right (fun kk => z_iadd (pc := 1684) hG dL_law_1684 kk) ?_
  refine And.imp_right (fun kk => z_scr (pc := 1685) hG hS 1 (by decide) rfl dL_law_1685 kk) ?_
  refine And.imp_right (fun kk => z_aload_n (pc := 1686) hG 1 rfl rfl dL_law_1686 kk) ?_
  refine And.imp_right (fun kk => z_iload (pc := 1687) hG 5 rfl dL_law_1687 kk) ?_
  refine And.imp_right (fun kk => z_iconst (pc := 1689) hG kc_2 dL_law_1689 kk) ?_
  refine And.imp_right (fun kk => z_iadd (pc := 1690) hG dL_law_1690 kk) ?_
  refine And.imp_right (fun kk => z_scr (pc := 1691) hG hS 2 (by decide) rfl dL_law_1691 kk) ?_
  replace h := zbind h
  obtain ⟨v2, hv2, h⟩ := h
  replace h := zchk_some h
  obtain ⟨hqv2, h⟩ := h
  refine And.imp_right (fun kk => z_cvI (A' := A0 + (C / 64 - v1.2.2.2.2 / 64)) (B' := B0 + 2 * (C - v1.2.2.2.2)) (nc := 0) (ns := 0) (rest := []) hG [.int (a 1), .int (a 2)] zc_X11 DL_42 (tX11_bunch hl0 (a 1) (a 2) v1.2 hv2) zy_X11_bunch ⟨w2016, w2017⟩ w2015 dL_law_1692 rfl (Nat.le_of_ble_eq_true rfl) (by omega) (by omega) rfl (Nat.le_of_ble_eq_true rfl) rfl kk) ?_
  refine zpc (of_decide_eq_true hqv2) ?_
  refine And.imp_right (fun kk => z_istore (pc := 1695) (ls' := [(6, .int v2.1), (5, .int v1.1), (0, .ref 950), (1, .ref 0), (2, .ref 42), (3, .ref 72), (4, .int i)]) hG [0, 1, 2, 3, 4, 5, 6] (by decide) rfl dL_law_1695 kk) ?_
  refine And.imp_right (fun kk => z_goto (pc := 1697) (tgt := 1939) hG dL_law_1697 rfl kk) ?_
  obtain rfl := Option.some.inj h
  refine And.imp_right (fun kk => z_sub (ls' := [(0, .ref 950), (1, .ref 0), (2, .ref 42), (3, .ref 72), (4, .int i)]) [2, 3, 4, 5, 6] rfl kk) ?_
  exact kf
noncomputable def nS_41 (a : Nat → Int32) (g : zS) : Option zS :=
  (nL_changes (a 1) g).bind fun v1 => zchk (decide (v1.2.2.2.2 = g.2.2.2)) ((nX11_changes (a 1) v1.2).bind fun v2 => zchk (decide (v2.2.2.2.2 = v1.2.2.2.2)) ((nX11_thrown v2.2).bind fun v3 => if v3 = v1.1 then (if v1.1 = 0 then (if (lg_cmp (v2.2.2.1 72 (0 : Int32).toNatClampNeg) v2.1.toInt64) = 0 then (some v2.2) else (none)) else (some v2.2)) else (none)))
noncomputable def nU_41 (a : Nat → Int32) (g : zS) : Option zS :=
  (nL_changes (a 1) g).bind fun v1 => zchk (decide (v1.2.2.2.2 = g.2.2.2)) ((nX11_changes (a 1) v1.2).bind fun v2 => zchk (decide (v2.2.2.2.2 = v1.2.2.2.2)) (some v2.2))
set_option maxHeartbeats 1000000 in
theorem tS_41 {x : zXx} {i : Int32} {a : Nat → Int32} (hl0 : (zl0 x).flags = flags0) (hG : zG x cL_law 7 RL ret) (hPx : zPx x.2.2.2.2.1) (hS : zScr x i a) {A0 B0 C : Nat} (g : zS) {r : zS} (h : nU_41 a g = some r) (kf : zgr r C ∧ zK x 66 1939 [(0, .ref 950), (1, .ref 0), (2, .ref 42), (3, .ref 72), (4, .int i)] [] zD r (A0 + (C / 64 - r.2.2.2 / 64)) (B0 + 2 * (C - r.2.2.2))) : zgr g C ∧ zK x 66 1700 [(0, .ref 950), (1, .ref 0), (2, .ref 42), (3, .ref 72), (4, .int i)] [] zD g (A0 + 1 + (C / 64 - g.2.2.2 / 64)) (B0 + 6 + 2 * (C - g.2.2.2)) := by
  unfold nU_41 at h
  refine And.imp_right (fun kk => z_aload_n (pc := 1700) hG 1 rfl rfl dL_law_1700 kk) ?_
  refine And.imp_right (fun kk => z_aload_n (pc := 1701) hG 0 rfl rfl dL_law_1701 kk) ?_
  refine And.imp_right (fun kk => z_iload (pc := 1702) hG 4 rfl dL_law_1702 kk) ?_
  refine And.imp_right (fun kk => z_iconst (pc := 1704) hG kc_1 dL_law_1704 kk) ?_
  refine And.imp_right (fun kk => z_iadd (pc := 1705) hG dL_law_1705 kk) ?_
  refine And.imp_right (fun kk => z_scr (pc := 1706) hG hS 1 (by decide) rfl dL_law_1706 kk) ?_
  refine And.imp_right (fun kk => z_aload_n (pc := 1707) hG 3 rfl rfl dL_law_1707 kk) ?_
  replace h := zbind h
  obtain ⟨v1, hv1, h⟩ := h
  replace h := zchk_some h
  obtain ⟨hqv1, h⟩ := h
  refine And.imp_right (fun kk => z_csH (A' := A0 + (C / 64 - g.2.2.2 / 64)) (B' := B0 + 2 * (C - g.2.2.2)) (rest := []) hG hPx [.ref 0, .int (a 1), .ref 72] (tL_changes hl0 (a 1) g hv1) zyH_changes w1377 w1376 dL_law_1708 rfl (Nat.le_of_ble_eq_true rfl) (by omega) (by omega) rfl (Nat.le_of_ble_eq_true rfl) rfl kk) ?_
  refine zpc (of_decide_eq_true hqv1) ?_
  refine And.imp_right (fun kk => z_istore (pc := 1711) (ls' := [(5, .int v1.1), (0, .ref 950), (1, .ref 0), (2, .ref 42), (3, .ref 72), (4, .int i)]) hG [0, 1, 2, 3, 4, 5] (by decide) rfl dL_law_1711 kk) ?_
  refine And.imp_right (fun kk => z_aload_n (pc := 1713) hG 3 rfl rfl dL_law_1713 kk) ?_
  refine And.imp_right (fun kk => z_aload_n (pc := 1714) hG 1 rfl rfl dL_law_1714 kk) ?_
  refine And.imp_right (fun kk => z_iload (pc := 1715) hG 5 rfl dL_law_1715 kk) ?_
  refine And.imp_right (fun kk => z_iconst (pc := 1717) hG kc_1 dL_law_1717 kk) ?_
  refine And.imp_right (fun kk => z_iadd (pc := 1718) hG dL_law_1718 kk) ?_
  refine And.imp_right (fun kk => z_scr (pc := 1719) hG hS 1 (by decide) rfl dL_law_1719 kk) ?_
  replace h := zbind h
  obtain ⟨v2, hv2, h⟩ := h
  replace h := zchk_some h
  obtain ⟨hqv2, h⟩ := h
  refine And.imp_right (fun kk => z_cvI (A' := A0 + (C / 64 - v1.2.2.2.2 / 64)) (B' := B0 + 2 * (C - v1.2.2.2.2)) (nc := 0) (ns := 0) (rest := []) hG [.int (a 1)] zc_X11 DL_42 (tX11_changes hl0 (a 1) v1.2 hv2) zy_X11_changes ⟨w2020, w2021⟩ w2019 dL_law_1720 rfl (Nat.le_of_ble_eq_true rfl) (by omega) (by omega) rfl (Nat.le_of_ble_eq_true rfl) rfl kk) ?_
  refine zpc (of_decide_eq_true hqv2) ?_
  refine And.imp_right (fun kk => z_istore (pc := 1723) (ls' := [(6, .int v2.1), (5, .int v1.1), (0, .ref 950), (1, .ref 0), (2, .ref 42), (3, .ref 72), (4, .int i)]) hG [0, 1, 2, 3, 4, 5, 6] (by decide) rfl dL_law_1723 kk) ?_
  refine And.imp_right (fun kk => z_goto (pc := 1725) (tgt := 1939) hG dL_law_1725 rfl kk) ?_
  obtain rfl := Option.some.inj h
  refine And.imp_right (fun kk => z_sub (ls' := [(0, .ref 950), (1, .ref 0), (2, .ref 42), (3, .ref 72), (4, .int i)]) [2, 3, 4, 5, 6] rfl kk) ?_
  exact kf
noncomputable def nS_42 (a : Nat → Int32) (g : zS) : Option zS :=
  (nX10_unlike g).bind fun v1 => zchk (decide (v1.2.2.2.2 = g.2.2.2)) ((nX11_unlike v1.2).bind fun v2 => zchk (decide (v2.2.2.2.2 = v1.2.2.2.2)) (if v1.1 = v2.1 then (some v2.2) else (none)))
noncomputable def nU_42 (a : Nat → Int32) (g : zS) : Option zS :=
  (nX10_unlike g).bind fun v1 => zchk (decide (v1.2.2.2.2 = g.2.2.2)) ((nX11_unlike v1.2).bind fun v2 => zchk (decide (v2.2.2.2.2 = v1.2.2.2.2)) (some v2.2))
set_option maxHeartbeats 1000000 in
theorem tS_42 {x : zXx} {i : Int32} {a : Nat → Int32} (hl0 : (zl0 x).flags = flags0) (hG : zG x cL_law 7 RL ret) (hPx : zPx x.2.2.2.2.1) (hS : zScr x i a) {A0 B0 C : Nat} (g : zS) {r : zS} (h : nU_42 a g = some r) (kf : zgr r C ∧ zK x 66 1939 [(0, .ref 950), (1, .ref 0), (2, .ref 42), (3, .ref 72), (4, .int i)] [] zD r (A0 + (C / 64 - r.2.2.2 / 64)) (B0 + 2 * (C - r.2.2.2))) : zgr g C ∧ zK x 66 1728 [(0, .ref 950), (1, .ref 0), (2, .ref 42), (3, .ref 72), (4, .int i)] [] zD g (A0 + 0 + (C / 64 - g.2.2.2 / 64)) (B0 + 0 + 2 * (C - g.2.2.2)) := by
  unfold nU_42 at h
  refine And.imp_right (fun kk => z_aload_n (pc := 1728) hG 1 rfl rfl dL_law_1728 kk) ?_
  replace h := zbind h
  obtain ⟨v1, hv1, h⟩ := h
  replace h := zchk_some h
  obtain ⟨hqv1, h⟩ := h
  refine And.imp_right (fun kk => z_cvI (A' := A0 + (C / 64 - g.2.2.2 / 64)) (B' := B0 + 2 * (C - g.2.2.2)) (nc := 0) (ns := 0) (rest := []) hG [] zc_X10 DL_0 (tX10_unlike hl0  g hv1) zy_X10_unlike ⟨w514, w515⟩ w513 dL_law_1729 rfl (Nat.le_of_ble_eq_true rfl) (by omega) (by omega) rfl (Nat.le_of_ble_eq_true rfl) rfl kk) ?_
  refine zpc (of_decide_eq_true hqv1) ?_
  refine And.imp_right (fun kk => z_pop (pc := 1732) hG rfl dL_law_1732 kk) ?_
  refine And.imp_right (fun kk => z_aload_n (pc := 1733) hG 2 rfl rfl dL_law_1733 kk) ?_
  replace h := zbind h
  obtain ⟨v2, hv2, h⟩ := h
  replace h := zchk_some h
  obtain ⟨hqv2, h⟩ := h
  refine And.imp_right (fun kk => z_cvI (A' := A0 + (C / 64 - v1.2.2.2.2 / 64)) (B' := B0 + 2 * (C - v1.2.2.2.2)) (nc := 0) (ns := 0) (rest := []) hG [] zc_X11 DL_42 (tX11_unlike hl0  v1.2 hv2) zy_X11_unlike ⟨w2024, w2025⟩ w2023 dL_law_1734 rfl (Nat.le_of_ble_eq_true rfl) (by omega) (by omega) rfl (Nat.le_of_ble_eq_true rfl) rfl kk) ?_
  refine zpc (of_decide_eq_true hqv2) ?_
  refine And.imp_right (fun kk => z_pop (pc := 1737) hG rfl dL_law_1737 kk) ?_
  refine And.imp_right (fun kk => z_goto (pc := 1738) (tgt := 1939) hG dL_law_1738 rfl kk) ?_
  obtain rfl := Option.some.inj h
  exact kf
noncomputable def nS_43 (a : Nat → Int32) (g : zS) : Option zS :=
  (nL_group (a 1) (a 2) g).bind fun v1 => zchk (decide (v1.2.2.2.2 = g.2.2.2)) ((nX11_group (a 1) (a 2) v1.2).bind fun v2 => zchk (decide (v2.2.2.2.2 = v1.2.2.2.2)) ((nX11_thrown v2.2).bind fun v3 => if v3 = v1.1 then (if v1.1 = 0 then (if (lg_cmp (v2.2.2.1 72 (0 : Int32).toNatClampNeg) v2.1.toInt64) = 0 then (some v2.2) else (none)) else (some v2.2)) else (none)))
noncomputable def nU_43 (a : Nat → Int32) (g : zS) : Option zS :=
  (nL_group (a 1) (a 2) g).bind fun v1 => zchk (decide (v1.2.2.2.2 = g.2.2.2)) ((nX11_group (a 1) (a 2) v1.2).bind fun v2 => zchk (decide (v2.2.2.2.2 = v1.2.2.2.2)) (some v2.2))
set_option maxHeartbeats 1000000 in
theorem tS_43 {x : zXx} {i : Int32} {a : Nat → Int32} (hl0 : (zl0 x).flags = flags0) (hG : zG x cL_law 7 RL ret) (hPx : zPx x.2.2.2.2.1) (hS : zScr x i a) {A0 B0 C : Nat} (g : zS) {r : zS} (h : nU_43 a g = some r) (kf : zgr r C ∧ zK x 66 1939 [(0, .ref 950), (1, .ref 0), (2, .ref 42), (3, .ref 72), (4, .int i)] [] zD r (A0 + (C / 64 - r.2.2.2 / 64)) (B0 + 2 * (C - r.2.2.2))) : zgr g C ∧ zK x 66 1741 [(0, .ref 950), (1, .ref 0), (2, .ref 42), (3, .ref 72), (4, .int i)] [] zD g (A0 + 2 + (C / 64 - g.2.2.2 / 64)) (B0 + 12 + 2 * (C - g.2.2.2)) := by
  unfold nU_43 at h
  refine And.imp_right (fun kk => z_aload_n (pc := 1741) hG 1 rfl rfl dL_law_1741 kk) ?_
  refine And.imp_right (fun kk => z_aload_n (pc := 1742) hG 0 rfl rfl dL_law_1742 kk) ?_
  refine And.imp_right (fun kk => z_iload (pc := 1743) hG 4 rfl dL_law_1743 kk) ?_
  refine And.imp_right (fun kk => z_iconst (pc := 1745) hG kc_1 dL_law_1745 kk) ?_
  refine And.imp_right (fun kk => z_iadd (pc := 1746) hG dL_law_1746 kk) ?_
  refine And.imp_right (fun kk => z_scr (pc := 1747) hG hS 1 (by decide) rfl dL_law_1747 kk) ?_
  refine And.imp_right (fun kk => z_aload_n (pc := 1748) hG 0 rfl rfl dL_law_1748 kk) ?_
  refine And.imp_right (fun kk => z_iload (pc := 1749) hG 4 rfl dL_law_1749 kk) ?_
  refine And.imp_right (fun kk => z_iconst (pc := 1751) hG kc_2 dL_law_1751 kk) ?_
  refine And.imp_right (fun kk => z_iadd (pc := 1752) hG dL_law_1752 kk) ?_
  refine And.imp_right (fun kk => z_scr (pc := 1753) hG hS 2 (by decide) rfl dL_law_1753 kk) ?_
  refine And.imp_right (fun kk => z_aload_n (pc := 1754) hG 3 rfl rfl dL_law_1754 kk) ?_
  replace h := zbind h
  obtain ⟨v1, hv1, h⟩ := h
  replace h := zchk_some h
  obtain ⟨hqv1, h⟩ := h
  refine And.imp_right (fun kk => z_csH (A' := A0 + (C / 64 - g.2.2.2 / 64)) (B' := B0 + 2 * (C - g.2.2.2)) (rest := []) hG hPx [.ref 0, .int (a 1), .int (a 2), .ref 72] (tL_group hl0 (a 1) (a 2) g hv1) zyH_group w1389 w1388 dL_law_1755 rfl (Nat.le_of_ble_eq_true rfl) (by omega) (by omega) rfl (Nat.le_of_ble_eq_true rfl) rfl kk) ?_
  refine zpc (of_decide_eq_true hqv1) ?_
  refine And.imp_right (fun kk => z_istore (pc := 1758) (ls' := [(5, .int v1.1), (0, .ref 950), (1, .ref 0), (2, .ref 42), (3, .ref 72), (4, .int i)]) hG [0, 1, 2, 3, 4, 5] (by decide) rfl dL_law_1758 kk) ?_
  refine And.imp_right (fun kk => z_aload_n (pc := 1760) hG 3 rfl rfl dL_law_1760 kk) ?_
  refine And.imp_right (fun kk => z_aload_n (pc := 1761) hG 1 rfl rfl dL_law_1761 kk) ?_
  refine And.imp_right (fun kk => z_iload (pc := 1762) hG 5 rfl dL_law_1762 kk) ?_
  refine And.imp_right (fun kk => z_iconst (pc := 1764) hG kc_1 dL_law_1764 kk) ?_
  refine And.imp_right (fun kk => z_iadd (pc := 1765) hG dL_law_1765 kk) ?_
  refine And.imp_right (fun kk => z_scr (pc := 1766) hG hS 1 (by decide) rfl dL_law_1766 kk) ?_
  refine And.imp_right (fun kk => z_aload_n (pc := 1767) hG 1 rfl rfl dL_law_1767 kk) ?_
  refine And.imp_right (fun kk => z_iload (pc := 1768) hG 5 rfl dL_law_1768 kk) ?_
  refine And.imp_right (fun kk => z_iconst (pc := 1770) hG kc_2 dL_law_1770 kk) ?_
  refine And.imp_right (fun kk => z_iadd (pc := 1771) hG dL_law_1771 kk) ?_
  refine And.imp_right (fun kk => z_scr (pc := 1772) hG hS 2 (by decide) rfl dL_law_1772 kk) ?_
  replace h := zbind h
  obtain ⟨v2, hv2, h⟩ := h
  replace h := zchk_some h
  obtain ⟨hqv2, h⟩ := h
  refine And.imp_right (fun kk => z_cvI (A' := A0 + (C / 64 - v1.2.2.2.2 / 64)) (B' := B0 + 2 * (C - v1.2.2.2.2)) (nc := 0) (ns := 0) (rest := []) hG [.int (a 1), .int (a 2)] zc_X11 DL_42 (tX11_group hl0 (a 1) (a 2) v1.2 hv2) zy_X11_group ⟨w2028, w2029⟩ w2027 dL_law_1773 rfl (Nat.le_of_ble_eq_true rfl) (by omega) (by omega) rfl (Nat.le_of_ble_eq_true rfl) rfl kk) ?_
  refine zpc (of_decide_eq_true hqv2) ?_
  refine And.imp_right (fun kk => z_istore (pc := 1776) (ls' := [(6, .int v2.1), (5, .int v1.1), (0, .ref 950), (1, .ref 0), (2, .ref 42), (3, .ref 72), (4, .int i)]) hG [0, 1, 2, 3, 4, 5, 6] (by decide) rfl dL_law_1776 kk) ?_
  refine And.imp_right (fun kk => z_goto (pc := 1778) (tgt := 1939) hG dL_law_1778 rfl kk) ?_
  obtain rfl := Option.some.inj h
  refine And.imp_right (fun kk => z_sub (ls' := [(0, .ref 950), (1, .ref 0), (2, .ref 42), (3, .ref 72), (4, .int i)]) [2, 3, 4, 5, 6] rfl kk) ?_
  exact kf
noncomputable def nS_44 (a : Nat → Int32) (g : zS) : Option zS :=
  (nL_usual (a 1) (a 2) g).bind fun v1 => zchk (decide (v1.2.2.2.2 = g.2.2.2)) ((nX11_usual (a 1) (a 2) v1.2).bind fun v2 => zchk (decide (v2.2.2.2.2 = v1.2.2.2.2)) ((nX11_thrown v2.2).bind fun v3 => if v3 = v1.1 then (if v1.1 = 0 then (if (lg_cmp (v2.2.2.1 72 (0 : Int32).toNatClampNeg) v2.1.toInt64) = 0 then (some v2.2) else (none)) else (some v2.2)) else (none)))
noncomputable def nU_44 (a : Nat → Int32) (g : zS) : Option zS :=
  (nL_usual (a 1) (a 2) g).bind fun v1 => zchk (decide (v1.2.2.2.2 = g.2.2.2)) ((nX11_usual (a 1) (a 2) v1.2).bind fun v2 => zchk (decide (v2.2.2.2.2 = v1.2.2.2.2)) (some v2.2))
set_option maxHeartbeats 1000000 in
theorem tS_44 {x : zXx} {i : Int32} {a : Nat → Int32} (hl0 : (zl0 x).flags = flags0) (hG : zG x cL_law 7 RL ret) (hPx : zPx x.2.2.2.2.1) (hS : zScr x i a) {A0 B0 C : Nat} (g : zS) {r : zS} (h : nU_44 a g = some r) (kf : zgr r C ∧ zK x 66 1939 [(0, .ref 950), (1, .ref 0), (2, .ref 42), (3, .ref 72), (4, .int i)] [] zD r (A0 + (C / 64 - r.2.2.2 / 64)) (B0 + 2 * (C - r.2.2.2))) : zgr g C ∧ zK x 66 1781 [(0, .ref 950), (1, .ref 0), (2, .ref 42), (3, .ref 72), (4, .int i)] [] zD g (A0 + 2 + (C / 64 - g.2.2.2 / 64)) (B0 + 12 + 2 * (C - g.2.2.2)) := by
  unfold nU_44 at h
  refine And.imp_right (fun kk => z_aload_n (pc := 1781) hG 1 rfl rfl dL_law_1781 kk) ?_
  refine And.imp_right (fun kk => z_aload_n (pc := 1782) hG 0 rfl rfl dL_law_1782 kk) ?_
  refine And.imp_right (fun kk => z_iload (pc := 1783) hG 4 rfl dL_law_1783 kk) ?_
  refine And.imp_right (fun kk => z_iconst (pc := 1785) hG kc_1 dL_law_1785 kk) ?_
  refine And.imp_right (fun kk => z_iadd (pc := 1786) hG dL_law_1786 kk) ?_
  refine And.imp_right (fun kk => z_scr (pc := 1787) hG hS 1 (by decide) rfl dL_law_1787 kk) ?_
  refine And.imp_right (fun kk => z_aload_n (pc := 1788) hG 0 rfl rfl dL_law_1788 kk) ?_
  refine And.imp_right (fun kk => z_iload (pc := 1789) hG 4 rfl dL_law_1789 kk) ?_
  refine And.imp_right (fun kk => z_iconst (pc := 1791) hG kc_2 dL_law_1791 kk) ?_
  refine And.imp_right (fun kk => z_iadd (pc := 1792) hG dL_law_1792 kk) ?_
  refine And.imp_right (fun kk => z_scr (pc := 1793) hG hS 2 (by decide) rfl dL_law_1793 kk) ?_
  refine And.imp_right (fun kk => z_aload_n (pc := 1794) hG 3 rfl rfl dL_law_1794 kk) ?_
  replace h := zbind h
  obtain ⟨v1, hv1, h⟩ := h
  replace h := zchk_some h
  obtain ⟨hqv1, h⟩ := h
  refine And.imp_right (fun kk => z_csH (A' := A0 + (C / 64 - g.2.2.2 / 64)) (B' := B0 + 2 * (C - g.2.2.2)) (rest := []) hG hPx [.ref 0, .int (a 1), .int (a 2), .ref 72] (tL_usual hl0 (a 1) (a 2) g hv1) zyH_usual w1404 w1403 dL_law_1795 rfl (Nat.le_of_ble_eq_true rfl) (by omega) (by omega) rfl (Nat.le_of_ble_eq_true rfl) rfl kk) ?_
  refine zpc (of_decide_eq_true hqv1) ?_
  refine And.imp_right (fun kk => z_istore (pc := 1798) (ls' := [(5, .int v1.1), (0, .ref 950), (1, .ref 0), (2, .ref 42), (3, .ref 72), (4, .int i)]) hG [0, 1, 2, 3, 4, 5] (by decide) rfl dL_law_1798 kk) ?_
  refine And.imp_right (fun kk => z_aload_n (pc := 1800) hG 3 rfl rfl dL_law_1800 kk) ?_
  refine And.imp_right (fun kk => z_aload_n (pc := 1801) hG 1 rfl rfl dL_law_1801 kk) ?_
  refine And.imp_right (fun kk => z_iload (pc := 1802) hG 5 rfl dL_law_1802 kk) ?_
  refine And.imp_right (fun kk => z_iconst (pc := 1804) hG kc_1 dL_law_1804 kk) ?_
  refine And.imp_right (fun kk => z_iadd (pc := 1805) hG dL_law_1805 kk) ?_
  refine And.imp_right (fun kk => z_scr (pc := 1806) hG hS 1 (by decide) rfl dL_law_1806 kk) ?_
  refine And.imp_right (fun kk => z_aload_n (pc := 1807) hG 1 rfl rfl dL_law_1807 kk) ?_
  refine And.imp_right (fun kk => z_iload (pc := 1808) hG 5 rfl dL_law_1808 kk) ?_
  refine And.imp_right (fun kk => z_iconst (pc := 1810) hG kc_2 dL_law_1810 kk) ?_
  refine And.imp_right (fun kk => z_iadd (pc := 1811) hG dL_law_1811 kk) ?_
  refine And.imp_right (fun kk => z_scr (pc := 1812) hG hS 2 (by decide) rfl dL_law_1812 kk) ?_
  replace h := zbind h
  obtain ⟨v2, hv2, h⟩ := h
  replace h := zchk_some h
  obtain ⟨hqv2, h⟩ := h
  refine And.imp_right (fun kk => z_cvI (A' := A0 + (C / 64 - v1.2.2.2.2 / 64)) (B' := B0 + 2 * (C - v1.2.2.2.2)) (nc := 0) (ns := 0) (rest := []) hG [.int (a 1), .int (a 2)] zc_X11 DL_42 (tX11_usual hl0 (a 1) (a 2) v1.2 hv2) zy_X11_usual ⟨w1925, w1926⟩ w1924 dL_law_1813 rfl (Nat.le_of_ble_eq_true rfl) (by omega) (by omega) rfl (Nat.le_of_ble_eq_true rfl) rfl kk) ?_
  refine zpc (of_decide_eq_true hqv2) ?_
  refine And.imp_right (fun kk => z_istore (pc := 1816) (ls' := [(6, .int v2.1), (5, .int v1.1), (0, .ref 950), (1, .ref 0), (2, .ref 42), (3, .ref 72), (4, .int i)]) hG [0, 1, 2, 3, 4, 5, 6] (by decide) rfl dL_law_1816 kk) ?_
  refine And.imp_right (fun kk => z_goto (pc := 1818) (tgt := 1939) hG dL_law_1818 rfl kk) ?_
  obtain rfl := Option.some.inj h
  refine And.imp_right (fun kk => z_sub (ls' := [(0, .ref 950), (1, .ref 0), (2, .ref 42), (3, .ref 72), (4, .int i)]) [2, 3, 4, 5, 6] rfl kk) ?_
  exact kf
noncomputable def nS_45 (a : Nat → Int32) (g : zS) : Option zS :=
  (nL_share (a 1) (a 2) g).bind fun v1 => zchk (decide (v1.2.2.2.2 = g.2.2.2)) ((nX11_share (a 1) (a 2) v1.2).bind fun v2 => zchk (decide (v2.2.2.2.2 = v1.2.2.2.2)) ((nX11_thrown v2.2).bind fun v3 => if v3 = v1.1 then (if v1.1 = 0 then (if (lg_cmp (v2.2.2.1 72 (0 : Int32).toNatClampNeg) v2.1.toInt64) = 0 then (some v2.2) else (none)) else (some v2.2)) else (none)))
noncomputable def nU_45 (a : Nat → Int32) (g : zS) : Option zS :=
  (nL_share (a 1) (a 2) g).bind fun v1 => zchk (decide (v1.2.2.2.2 = g.2.2.2)) ((nX11_share (a 1) (a 2) v1.2).bind fun v2 => zchk (decide (v2.2.2.2.2 = v1.2.2.2.2)) (some v2.2))
set_option maxHeartbeats 1000000 in
theorem tS_45 {x : zXx} {i : Int32} {a : Nat → Int32} (hl0 : (zl0 x).flags = flags0) (hG : zG x cL_law 7 RL ret) (hPx : zPx x.2.2.2.2.1) (hS : zScr x i a) {A0 B0 C : Nat} (g : zS) {r : zS} (h : nU_45 a g = some r) (kf : zgr r C ∧ zK x 66 1939 [(0, .ref 950), (1, .ref 0), (2, .ref 42), (3, .ref 72), (4, .int i)] [] zD r (A0 + (C / 64 - r.2.2.2 / 64)) (B0 + 2 * (C - r.2.2.2))) : zgr g C ∧ zK x 66 1821 [(0, .ref 950), (1, .ref 0), (2, .ref 42), (3, .ref 72), (4, .int i)] [] zD g (A0 + 2 + (C / 64 - g.2.2.2 / 64)) (B0 + 12 + 2 * (C - g.2.2.2)) := by
  unfold nU_45 at h
  refine And.imp_right (fun kk => z_aload_n (pc := 1821) hG 1 rfl rfl dL_law_1821 kk) ?_
  refine And.imp_right (fun kk => z_aload_n (pc := 1822) hG 0 rfl rfl dL_law_1822 kk) ?_
  refine And.imp_right (fun kk => z_iload (pc := 1823) hG 4 rfl dL_law_1823 kk) ?_
  refine And.imp_right (fun kk => z_iconst (pc := 1825) hG kc_1 dL_law_1825 kk) ?_
  refine And.imp_right (fun kk => z_iadd (pc := 1826) hG dL_law_1826 kk) ?_
  refine And.imp_right (fun kk => z_scr (pc := 1827) hG hS 1 (by decide) rfl dL_law_1827 kk) ?_
  refine And.imp_right (fun kk => z_aload_n (pc := 1828) hG 0 rfl rfl dL_law_1828 kk) ?_
  refine And.imp_right (fun kk => z_iload (pc := 1829) hG 4 rfl dL_law_1829 kk) ?_
  refine And.imp_right (fun kk => z_iconst (pc := 1831) hG kc_2 dL_law_1831 kk) ?_
  refine And.imp_right (fun kk => z_iadd (pc := 1832) hG dL_law_1832 kk) ?_
  refine And.imp_right (fun kk => z_scr (pc := 1833) hG hS 2 (by decide) rfl dL_law_1833 kk) ?_
  refine And.imp_right (fun kk => z_aload_n (pc := 1834) hG 3 rfl rfl dL_law_1834 kk) ?_
  replace h := zbind h
  obtain ⟨v1, hv1, h⟩ := h
  replace h := zchk_some h
  obtain ⟨hqv1, h⟩ := h
  refine And.imp_right (fun kk => z_csH (A' := A0 + (C / 64 - g.2.2.2 / 64)) (B' := B0 + 2 * (C - g.2.2.2)) (rest := []) hG hPx [.ref 0, .int (a 1), .int (a 2), .ref 72] (tL_share hl0 (a 1) (a 2) g hv1) zyH_share w1415 w1414 dL_law_1835 rfl (Nat.le_of_ble_eq_true rfl) (by omega) (by omega) rfl (Nat.le_of_ble_eq_true rfl) rfl kk) ?_
  refine zpc (of_decide_eq_true hqv1) ?_
  refine And.imp_right (fun kk => z_istore (pc := 1838) (ls' := [(5, .int v1.1), (0, .ref 950), (1, .ref 0), (2, .ref 42), (3, .ref 72), (4, .int i)]) hG [0, 1, 2, 3, 4, 5] (by decide) rfl dL_law_1838 kk) ?_
  refine And.imp_right (fun kk => z_aload_n (pc := 1840) hG 3 rfl rfl dL_law_1840 kk) ?_
  refine And.imp_right (fun kk => z_aload_n (pc := 1841) hG 1 rfl rfl dL_law_1841 kk) ?_
  refine And.imp_right (fun kk => z_iload (pc := 1842) hG 5 rfl dL_law_1842 kk) ?_
  refine And.imp_right (fun kk => z_iconst (pc := 1844) hG kc_1 dL_law_1844 kk) ?_
  refine And.imp_right (fun kk => z_iadd (pc := 1845) hG dL_law_1845 kk) ?_
  refine And.imp_right (fun kk => z_scr (pc := 1846) hG hS 1 (by decide) rfl dL_law_1846 kk) ?_
  refine And.imp_right (fun kk => z_aload_n (pc := 1847) hG 1 rfl rfl dL_law_1847 kk) ?_
  refine And.imp_right (fun kk => z_iload (pc := 1848) hG 5 rfl dL_law_1848 kk) ?_
  refine And.imp_right (fun kk => z_iconst (pc := 1850) hG kc_2 dL_law_1850 kk) ?_
  refine And.imp_right (fun kk => z_iadd (pc := 1851) hG dL_law_1851 kk) ?_
  refine And.imp_right (fun kk => z_scr (pc := 1852) hG hS 2 (by decide) rfl dL_law_1852 kk) ?_
  replace h := zbind h
  obtain ⟨v2, hv2, h⟩ := h
  replace h := zchk_some h
  obtain ⟨hqv2, h⟩ := h
  refine And.imp_right (fun kk => z_cvI (A' := A0 + (C / 64 - v1.2.2.2.2 / 64)) (B' := B0 + 2 * (C - v1.2.2.2.2)) (nc := 0) (ns := 0) (rest := []) hG [.int (a 1), .int (a 2)] zc_X11 DL_42 (tX11_share hl0 (a 1) (a 2) v1.2 hv2) zy_X11_share ⟨w2032, w2033⟩ w2031 dL_law_1853 rfl (Nat.le_of_ble_eq_true rfl) (by omega) (by omega) rfl (Nat.le_of_ble_eq_true rfl) rfl kk) ?_
  refine zpc (of_decide_eq_true hqv2) ?_
  refine And.imp_right (fun kk => z_istore (pc := 1856) (ls' := [(6, .int v2.1), (5, .int v1.1), (0, .ref 950), (1, .ref 0), (2, .ref 42), (3, .ref 72), (4, .int i)]) hG [0, 1, 2, 3, 4, 5, 6] (by decide) rfl dL_law_1856 kk) ?_
  refine And.imp_right (fun kk => z_goto (pc := 1858) (tgt := 1939) hG dL_law_1858 rfl kk) ?_
  obtain rfl := Option.some.inj h
  refine And.imp_right (fun kk => z_sub (ls' := [(0, .ref 950), (1, .ref 0), (2, .ref 42), (3, .ref 72), (4, .int i)]) [2, 3, 4, 5, 6] rfl kk) ?_
  exact kf
noncomputable def nS_46 (a : Nat → Int32) (g : zS) : Option zS :=
  (nL_write (a 1) g).bind fun v1 => zchk (decide (v1.2.2.2.2 = g.2.2.2)) ((nX11_write (a 1) v1.2).bind fun v2 => zchk (decide (v2.2.2.2.2 = v1.2.2.2.2)) ((nX11_thrown v2.2).bind fun v3 => if v3 = v1.1 then (if v1.1 = 0 then (if (lg_cmp (v2.2.2.1 72 (0 : Int32).toNatClampNeg) v2.1.toInt64) = 0 then (some v2.2) else (none)) else (some v2.2)) else (none)))
noncomputable def nU_46 (a : Nat → Int32) (g : zS) : Option zS :=
  (nL_write (a 1) g).bind fun v1 => zchk (decide (v1.2.2.2.2 = g.2.2.2)) ((nX11_write (a 1) v1.2).bind fun v2 => zchk (decide (v2.2.2.2.2 = v1.2.2.2.2)) (some v2.2))
set_option maxHeartbeats 1000000 in
theorem tS_46 {x : zXx} {i : Int32} {a : Nat → Int32} (hl0 : (zl0 x).flags = flags0) (hG : zG x cL_law 7 RL ret) (hPx : zPx x.2.2.2.2.1) (hS : zScr x i a) {A0 B0 C : Nat} (g : zS) {r : zS} (h : nU_46 a g = some r) (kf : zgr r C ∧ zK x 66 1939 [(0, .ref 950), (1, .ref 0), (2, .ref 42), (3, .ref 72), (4, .int i)] [] zD r (A0 + (C / 64 - r.2.2.2 / 64)) (B0 + 2 * (C - r.2.2.2))) : zgr g C ∧ zK x 66 1861 [(0, .ref 950), (1, .ref 0), (2, .ref 42), (3, .ref 72), (4, .int i)] [] zD g (A0 + 1 + (C / 64 - g.2.2.2 / 64)) (B0 + 6 + 2 * (C - g.2.2.2)) := by
  unfold nU_46 at h
  refine And.imp_right (fun kk => z_aload_n (pc := 1861) hG 1 rfl rfl dL_law_1861 kk) ?_
  refine And.imp_right (fun kk => z_aload_n (pc := 1862) hG 0 rfl rfl dL_law_1862 kk) ?_
  refine And.imp_right (fun kk => z_iload (pc := 1863) hG 4 rfl dL_law_1863 kk) ?_
  refine And.imp_right (fun kk => z_iconst (pc := 1865) hG kc_1 dL_law_1865 kk) ?_
  refine And.imp_right (fun kk => z_iadd (pc := 1866) hG dL_law_1866 kk) ?_
  refine And.imp_right (fun kk => z_scr (pc := 1867) hG hS 1 (by decide) rfl dL_law_1867 kk) ?_
  refine And.imp_right (fun kk => z_aload_n (pc := 1868) hG 3 rfl rfl dL_law_1868 kk) ?_
  replace h := zbind h
  obtain ⟨v1, hv1, h⟩ := h
  replace h := zchk_some h
  obtain ⟨hqv1, h⟩ := h
  refine And.imp_right (fun kk => z_csH (A' := A0 + (C / 64 - g.2.2.2 / 64)) (B' := B0 + 2 * (C - g.2.2.2)) (rest := []) hG hPx [.ref 0, .int (a 1), .ref 72] (tL_write hl0 (a 1) g hv1) zyH_write w1423 w1422 dL_law_1869 rfl (Nat.le_of_ble_eq_true rfl) (by omega) (by omega) rfl (Nat.le_of_ble_eq_true rfl) rfl kk) ?_
  refine zpc (of_decide_eq_true hqv1) ?_
  refine And.imp_right (fun kk => z_istore (pc := 1872) (ls' := [(5, .int v1.1), (0, .ref 950), (1, .ref 0), (2, .ref 42), (3, .ref 72), (4, .int i)]) hG [0, 1, 2, 3, 4, 5] (by decide) rfl dL_law_1872 kk) ?_
  refine And.imp_right (fun kk => z_aload_n (pc := 1874) hG 3 rfl rfl dL_law_1874 kk) ?_
  refine And.imp_right (fun kk => z_aload_n (pc := 1875) hG 1 rfl rfl dL_law_1875 kk) ?_
  refine And.imp_right (fun kk => z_iload (pc := 1876) hG 5 rfl dL_law_1876 kk) ?_
  refine And.imp_right (fun kk => z_iconst (pc := 1878) hG kc_1 dL_law_1878 kk) ?_
  refine And.imp_right (fun kk => z_iadd (pc := 1879) hG dL_law_1879 kk) ?_
  refine And.imp_right (fun kk => z_scr (pc := 1880) hG hS 1 (by decide) rfl dL_law_1880 kk) ?_
  replace h := zbind h
  obtain ⟨v2, hv2, h⟩ := h
  replace h := zchk_some h
  obtain ⟨hqv2, h⟩ := h
  refine And.imp_right (fun kk => z_cvI (A' := A0 + (C / 64 - v1.2.2.2.2 / 64)) (B' := B0 + 2 * (C - v1.2.2.2.2)) (nc := 0) (ns := 0) (rest := []) hG [.int (a 1)] zc_X11 DL_42 (tX11_write hl0 (a 1) v1.2 hv2) zy_X11_write ⟨w2036, w2037⟩ w2035 dL_law_1881 rfl (Nat.le_of_ble_eq_true rfl) (by omega) (by omega) rfl (Nat.le_of_ble_eq_true rfl) rfl kk) ?_
  refine zpc (of_decide_eq_true hqv2) ?_
  refine And.imp_right (fun kk => z_istore (pc := 1884) (ls' := [(6, .int v2.1), (5, .int v1.1), (0, .ref 950), (1, .ref 0), (2, .ref 42), (3, .ref 72), (4, .int i)]) hG [0, 1, 2, 3, 4, 5, 6] (by decide) rfl dL_law_1884 kk) ?_
  refine And.imp_right (fun kk => z_goto (pc := 1886) (tgt := 1939) hG dL_law_1886 rfl kk) ?_
  obtain rfl := Option.some.inj h
  refine And.imp_right (fun kk => z_sub (ls' := [(0, .ref 950), (1, .ref 0), (2, .ref 42), (3, .ref 72), (4, .int i)]) [2, 3, 4, 5, 6] rfl kk) ?_
  exact kf
noncomputable def nS_47 (a : Nat → Int32) (g : zS) : Option zS :=
  (nX10_octet (a 1) g).bind fun v1 => (nX11_octet (a 1) g).bind fun v2 => zchk (decide (v2.2.2.2.2 = g.2.2.2)) (if v1 = v2.1 then (some v2.2) else (none))
noncomputable def nU_47 (a : Nat → Int32) (g : zS) : Option zS :=
  (nX10_octet (a 1) g).bind fun v1 => (nX11_octet (a 1) g).bind fun v2 => zchk (decide (v2.2.2.2.2 = g.2.2.2)) (some v2.2)
set_option maxHeartbeats 1000000 in
theorem tS_47 {x : zXx} {i : Int32} {a : Nat → Int32} (hl0 : (zl0 x).flags = flags0) (hG : zG x cL_law 7 RL ret) (hPx : zPx x.2.2.2.2.1) (hS : zScr x i a) {A0 B0 C : Nat} (g : zS) {r : zS} (h : nU_47 a g = some r) (kf : zgr r C ∧ zK x 66 1939 [(0, .ref 950), (1, .ref 0), (2, .ref 42), (3, .ref 72), (4, .int i)] [] zD r (A0 + (C / 64 - r.2.2.2 / 64)) (B0 + 2 * (C - r.2.2.2))) : zgr g C ∧ zK x 66 1889 [(0, .ref 950), (1, .ref 0), (2, .ref 42), (3, .ref 72), (4, .int i)] [] zD g (A0 + 0 + (C / 64 - g.2.2.2 / 64)) (B0 + 0 + 2 * (C - g.2.2.2)) := by
  unfold nU_47 at h
  refine And.imp_right (fun kk => z_aload_n (pc := 1889) hG 1 rfl rfl dL_law_1889 kk) ?_
  refine And.imp_right (fun kk => z_aload_n (pc := 1890) hG 0 rfl rfl dL_law_1890 kk) ?_
  refine And.imp_right (fun kk => z_iload (pc := 1891) hG 4 rfl dL_law_1891 kk) ?_
  refine And.imp_right (fun kk => z_iconst (pc := 1893) hG kc_1 dL_law_1893 kk) ?_
  refine And.imp_right (fun kk => z_iadd (pc := 1894) hG dL_law_1894 kk) ?_
  refine And.imp_right (fun kk => z_scr (pc := 1895) hG hS 1 (by decide) rfl dL_law_1895 kk) ?_
  replace h := zbind h
  obtain ⟨v1, hv1, h⟩ := h
  refine And.imp_right (fun kk => z_cvI (A' := A0 + (C / 64 - g.2.2.2 / 64)) (B' := B0 + 2 * (C - g.2.2.2)) (nc := 0) (ns := 0) (rest := []) hG [.int (a 1)] zc_X10 DL_0 (tX10_octet hl0 (a 1) g hv1) zy_X10_octet ⟨w527, w528⟩ w526 dL_law_1896 rfl (Nat.le_of_ble_eq_true rfl) (by omega) (by omega) rfl (Nat.le_of_ble_eq_true rfl) rfl kk) ?_
  refine And.imp_right (fun kk => z_pop (pc := 1899) hG rfl dL_law_1899 kk) ?_
  refine And.imp_right (fun kk => z_aload_n (pc := 1900) hG 2 rfl rfl dL_law_1900 kk) ?_
  refine And.imp_right (fun kk => z_aload_n (pc := 1901) hG 0 rfl rfl dL_law_1901 kk) ?_
  refine And.imp_right (fun kk => z_iload (pc := 1902) hG 4 rfl dL_law_1902 kk) ?_
  refine And.imp_right (fun kk => z_iconst (pc := 1904) hG kc_1 dL_law_1904 kk) ?_
  refine And.imp_right (fun kk => z_iadd (pc := 1905) hG dL_law_1905 kk) ?_
  refine And.imp_right (fun kk => z_scr (pc := 1906) hG hS 1 (by decide) rfl dL_law_1906 kk) ?_
  replace h := zbind h
  obtain ⟨v2, hv2, h⟩ := h
  replace h := zchk_some h
  obtain ⟨hqv2, h⟩ := h
  refine And.imp_right (fun kk => z_cvI (A' := A0 + (C / 64 - g.2.2.2 / 64)) (B' := B0 + 2 * (C - g.2.2.2)) (nc := 0) (ns := 0) (rest := []) hG [.int (a 1)] zc_X11 DL_42 (tX11_octet hl0 (a 1) g hv2) zy_X11_octet ⟨w2040, w2041⟩ w2039 dL_law_1907 rfl (Nat.le_of_ble_eq_true rfl) (by omega) (by omega) rfl (Nat.le_of_ble_eq_true rfl) rfl kk) ?_
  refine zpc (of_decide_eq_true hqv2) ?_
  refine And.imp_right (fun kk => z_pop (pc := 1910) hG rfl dL_law_1910 kk) ?_
  refine And.imp_right (fun kk => z_goto (pc := 1911) (tgt := 1939) hG dL_law_1911 rfl kk) ?_
  obtain rfl := Option.some.inj h
  exact kf
noncomputable def nS_48 (a : Nat → Int32) (g : zS) : Option zS :=
  (nX10_count (a 1) g).bind fun v1 => (nX11_count (a 1) g).bind fun v2 => zchk (decide (v2.2.2.2.2 = g.2.2.2)) (if v1 = v2.1 then (some v2.2) else (none))
noncomputable def nU_48 (a : Nat → Int32) (g : zS) : Option zS :=
  (nX10_count (a 1) g).bind fun v1 => (nX11_count (a 1) g).bind fun v2 => zchk (decide (v2.2.2.2.2 = g.2.2.2)) (some v2.2)
set_option maxHeartbeats 1000000 in
theorem tS_48 {x : zXx} {i : Int32} {a : Nat → Int32} (hl0 : (zl0 x).flags = flags0) (hG : zG x cL_law 7 RL ret) (hPx : zPx x.2.2.2.2.1) (hS : zScr x i a) {A0 B0 C : Nat} (g : zS) {r : zS} (h : nU_48 a g = some r) (kf : zgr r C ∧ zK x 66 1939 [(0, .ref 950), (1, .ref 0), (2, .ref 42), (3, .ref 72), (4, .int i)] [] zD r (A0 + (C / 64 - r.2.2.2 / 64)) (B0 + 2 * (C - r.2.2.2))) : zgr g C ∧ zK x 66 1914 [(0, .ref 950), (1, .ref 0), (2, .ref 42), (3, .ref 72), (4, .int i)] [] zD g (A0 + 0 + (C / 64 - g.2.2.2 / 64)) (B0 + 0 + 2 * (C - g.2.2.2)) := by
  unfold nU_48 at h
  refine And.imp_right (fun kk => z_aload_n (pc := 1914) hG 1 rfl rfl dL_law_1914 kk) ?_
  refine And.imp_right (fun kk => z_aload_n (pc := 1915) hG 0 rfl rfl dL_law_1915 kk) ?_
  refine And.imp_right (fun kk => z_iload (pc := 1916) hG 4 rfl dL_law_1916 kk) ?_
  refine And.imp_right (fun kk => z_iconst (pc := 1918) hG kc_1 dL_law_1918 kk) ?_
  refine And.imp_right (fun kk => z_iadd (pc := 1919) hG dL_law_1919 kk) ?_
  refine And.imp_right (fun kk => z_scr (pc := 1920) hG hS 1 (by decide) rfl dL_law_1920 kk) ?_
  replace h := zbind h
  obtain ⟨v1, hv1, h⟩ := h
  refine And.imp_right (fun kk => z_cvI (A' := A0 + (C / 64 - g.2.2.2 / 64)) (B' := B0 + 2 * (C - g.2.2.2)) (nc := 0) (ns := 0) (rest := []) hG [.int (a 1)] zc_X10 DL_0 (tX10_count hl0 (a 1) g hv1) zy_X10_count ⟨w531, w532⟩ w530 dL_law_1921 rfl (Nat.le_of_ble_eq_true rfl) (by omega) (by omega) rfl (Nat.le_of_ble_eq_true rfl) rfl kk) ?_
  refine And.imp_right (fun kk => z_pop (pc := 1924) hG rfl dL_law_1924 kk) ?_
  refine And.imp_right (fun kk => z_aload_n (pc := 1925) hG 2 rfl rfl dL_law_1925 kk) ?_
  refine And.imp_right (fun kk => z_aload_n (pc := 1926) hG 0 rfl rfl dL_law_1926 kk) ?_
  refine And.imp_right (fun kk => z_iload (pc := 1927) hG 4 rfl dL_law_1927 kk) ?_
  refine And.imp_right (fun kk => z_iconst (pc := 1929) hG kc_1 dL_law_1929 kk) ?_
  refine And.imp_right (fun kk => z_iadd (pc := 1930) hG dL_law_1930 kk) ?_
  refine And.imp_right (fun kk => z_scr (pc := 1931) hG hS 1 (by decide) rfl dL_law_1931 kk) ?_
  replace h := zbind h
  obtain ⟨v2, hv2, h⟩ := h
  replace h := zchk_some h
  obtain ⟨hqv2, h⟩ := h
  refine And.imp_right (fun kk => z_cvI (A' := A0 + (C / 64 - g.2.2.2 / 64)) (B' := B0 + 2 * (C - g.2.2.2)) (nc := 0) (ns := 0) (rest := []) hG [.int (a 1)] zc_X11 DL_42 (tX11_count hl0 (a 1) g hv2) zy_X11_count ⟨w2044, w2045⟩ w2043 dL_law_1932 rfl (Nat.le_of_ble_eq_true rfl) (by omega) (by omega) rfl (Nat.le_of_ble_eq_true rfl) rfl kk) ?_
  refine zpc (of_decide_eq_true hqv2) ?_
  refine And.imp_right (fun kk => z_pop (pc := 1935) hG rfl dL_law_1935 kk) ?_
  refine And.imp_right (fun kk => z_goto (pc := 1936) (tgt := 1939) hG dL_law_1936 rfl kk) ?_
  obtain rfl := Option.some.inj h
  exact kf
