
/-! ===== the steps of the law's loop ===== -/
/-- six ints of the script from i on -/
def zScr (x : zXx) (i : Int32) (a : Nat → Int32) : Prop := match x with
  | (p, l, e, R, s, m, args, below, meth, c, D, ca, b0, ad0, n0, tg) => ∃ (L : Nat) (xs : Nat → Int32), va_X (ad0 950) L xs s s.heap ∧ ad0 950 < s.heap.size ∧ ad0 950 < b0 ∧ ∀ j, j < 6 → vp_in (i + nI j) L ∧ xs (i + nI j).toNatClampNeg = a j
section ZSt
variable {x : zXx} {cc : ByteArray} {nL : Nat} {own : String} {ret : Option FieldType} {F pc : Nat} {ls : List (Nat × Value)} {st : List Value} {dl : List zDs} {σ : zS} {A B : Nat}
theorem z_scr {i v : Int32} {a : Nat → Int32} (hG : zG x cc nL own ret) (hS : zScr x i a) (j : Nat) (hj : j < 6) (hv : v = i + nI j) (hd : decode cc pc = .ok (.iaload, 1))
    (kk : zK x F (pc + 1) ls (.int (a j) :: st) dl σ A B) : zK x F pc ls (.int v :: .ref 950 :: st) dl σ A B := by
  obtain ⟨p, l, e, R, s, m, args, below, meth, c, D, ca, b0, ad0, n0, tg⟩ := x
  obtain ⟨hx, hb, hml, hown, hts, hret, hlk, htab, hKs, hOs, hfl⟩ := hG
  obtain ⟨L, xs, g1, g2, g3, g4⟩ := hS
  subst hv
  intro ad H locs la cells slots h1 h2 h3 h4 h5 h6 h7 h8 h9 h10
  have e9 : ad 950 = ad0 950 := h1.hi 950 (by decide)
  have k2 := kk ad H locs la cells slots h1 h2 h3 h4 h5 h6 h7 h8 h9 h10
  show W p l e R s m args below meth c H locs cells slots _ (F0 m pc la (.int (i + nI j) :: .ref (ad 950) :: st.map (zr ad)))
  rw [e9]
  refine va_sld hx hb g1 g2 (A := zA b0) (fun q => Nat.not_le.mpr g3 q) h5 (g4 j hj).1 hd ?_
  rw [(g4 j hj).2]
  exact k2
end ZSt
theorem z_i0 (i : Int32) : i = i + nI 0 := (Int32.add_zero i).symm
noncomputable def nS_0 (a : Nat → Int32) (g : zS) : Option zS :=
  (nX10_feed (a 1) (a 2) (a 3) (a 4) (a 5) g).bind fun v1 => zchk (decide (v1.2.2.2.2 = g.2.2.2)) ((nX11_feed (a 1) (a 2) (a 3) (a 4) (a 5) v1.2).bind fun v2 => zchk (decide (v2.2.2.2.2 = v1.2.2.2.2)) (if v1.1 = v2.1 then (some v2.2) else (none)))
noncomputable def nU_0 (a : Nat → Int32) (g : zS) : Option zS :=
  (nX10_feed (a 1) (a 2) (a 3) (a 4) (a 5) g).bind fun v1 => zchk (decide (v1.2.2.2.2 = g.2.2.2)) ((nX11_feed (a 1) (a 2) (a 3) (a 4) (a 5) v1.2).bind fun v2 => zchk (decide (v2.2.2.2.2 = v1.2.2.2.2)) (some v2.2))
set_option maxHeartbeats 1000000 in
theorem tS_0 {x : zXx} {i : Int32} {a : Nat → Int32} (hl0 : (zl0 x).flags = flags0) (hG : zG x cL_law 7 RL ret) (hPx : zPx x.2.2.2.2.1) (hS : zScr x i a) {A0 B0 C : Nat} (g : zS) {r : zS} (h : nU_0 a g = some r) (kf : zgr r C ∧ zK x 66 1967 [(0, .ref 950), (1, .ref 0), (2, .ref 42), (3, .ref 72), (4, .int i)] [] zD r (A0 + (C / 64 - r.2.2.2 / 64)) (B0 + 2 * (C - r.2.2.2))) : zgr g C ∧ zK x 66 252 [(0, .ref 950), (1, .ref 0), (2, .ref 42), (3, .ref 72), (4, .int i)] [] zD g (A0 + 0 + (C / 64 - g.2.2.2 / 64)) (B0 + 0 + 2 * (C - g.2.2.2)) := by
  unfold nU_0 at h
  refine And.imp_right (fun kk => z_aload_n (pc := 252) hG 1 rfl rfl dL_law_252 kk) ?_
  refine And.imp_right (fun kk => z_aload_n (pc := 253) hG 0 rfl rfl dL_law_253 kk) ?_
  refine And.imp_right (fun kk => z_iload (pc := 254) hG 4 rfl dL_law_254 kk) ?_
  refine And.imp_right (fun kk => z_iconst (pc := 256) hG kc_1 dL_law_256 kk) ?_
  refine And.imp_right (fun kk => z_iadd (pc := 257) hG dL_law_257 kk) ?_
  refine And.imp_right (fun kk => z_scr (pc := 258) hG hS 1 (by decide) rfl dL_law_258 kk) ?_
  refine And.imp_right (fun kk => z_aload_n (pc := 259) hG 0 rfl rfl dL_law_259 kk) ?_
  refine And.imp_right (fun kk => z_iload (pc := 260) hG 4 rfl dL_law_260 kk) ?_
  refine And.imp_right (fun kk => z_iconst (pc := 262) hG kc_2 dL_law_262 kk) ?_
  refine And.imp_right (fun kk => z_iadd (pc := 263) hG dL_law_263 kk) ?_
  refine And.imp_right (fun kk => z_scr (pc := 264) hG hS 2 (by decide) rfl dL_law_264 kk) ?_
  refine And.imp_right (fun kk => z_aload_n (pc := 265) hG 0 rfl rfl dL_law_265 kk) ?_
  refine And.imp_right (fun kk => z_iload (pc := 266) hG 4 rfl dL_law_266 kk) ?_
  refine And.imp_right (fun kk => z_iconst (pc := 268) hG kc_3 dL_law_268 kk) ?_
  refine And.imp_right (fun kk => z_iadd (pc := 269) hG dL_law_269 kk) ?_
  refine And.imp_right (fun kk => z_scr (pc := 270) hG hS 3 (by decide) rfl dL_law_270 kk) ?_
  refine And.imp_right (fun kk => z_aload_n (pc := 271) hG 0 rfl rfl dL_law_271 kk) ?_
  refine And.imp_right (fun kk => z_iload (pc := 272) hG 4 rfl dL_law_272 kk) ?_
  refine And.imp_right (fun kk => z_iconst (pc := 274) hG kc_4 dL_law_274 kk) ?_
  refine And.imp_right (fun kk => z_iadd (pc := 275) hG dL_law_275 kk) ?_
  refine And.imp_right (fun kk => z_scr (pc := 276) hG hS 4 (by decide) rfl dL_law_276 kk) ?_
  refine And.imp_right (fun kk => z_aload_n (pc := 277) hG 0 rfl rfl dL_law_277 kk) ?_
  refine And.imp_right (fun kk => z_iload (pc := 278) hG 4 rfl dL_law_278 kk) ?_
  refine And.imp_right (fun kk => z_iconst (pc := 280) hG kc_5 dL_law_280 kk) ?_
  refine And.imp_right (fun kk => z_iadd (pc := 281) hG dL_law_281 kk) ?_
  refine And.imp_right (fun kk => z_scr (pc := 282) hG hS 5 (by decide) rfl dL_law_282 kk) ?_
  replace h := zbind h
  obtain ⟨v1, hv1, h⟩ := h
  replace h := zchk_some h
  obtain ⟨hqv1, h⟩ := h
  refine And.imp_right (fun kk => z_cvI (A' := A0 + (C / 64 - g.2.2.2 / 64)) (B' := B0 + 2 * (C - g.2.2.2)) (nc := 0) (ns := 0) (rest := []) hG [.int (a 1), .int (a 2), .int (a 3), .int (a 4), .int (a 5)] zc_X10 DL_0 (tX10_feed hl0 (a 1) (a 2) (a 3) (a 4) (a 5) g hv1) zy_X10_feed ⟨w320, w321⟩ w319 dL_law_283 rfl (Nat.le_of_ble_eq_true rfl) (by omega) (by omega) rfl (Nat.le_of_ble_eq_true rfl) rfl kk) ?_
  refine zpc (of_decide_eq_true hqv1) ?_
  refine And.imp_right (fun kk => z_pop (pc := 286) hG rfl dL_law_286 kk) ?_
  refine And.imp_right (fun kk => z_aload_n (pc := 287) hG 2 rfl rfl dL_law_287 kk) ?_
  refine And.imp_right (fun kk => z_aload_n (pc := 288) hG 0 rfl rfl dL_law_288 kk) ?_
  refine And.imp_right (fun kk => z_iload (pc := 289) hG 4 rfl dL_law_289 kk) ?_
  refine And.imp_right (fun kk => z_iconst (pc := 291) hG kc_1 dL_law_291 kk) ?_
  refine And.imp_right (fun kk => z_iadd (pc := 292) hG dL_law_292 kk) ?_
  refine And.imp_right (fun kk => z_scr (pc := 293) hG hS 1 (by decide) rfl dL_law_293 kk) ?_
  refine And.imp_right (fun kk => z_aload_n (pc := 294) hG 0 rfl rfl dL_law_294 kk) ?_
  refine And.imp_right (fun kk => z_iload (pc := 295) hG 4 rfl dL_law_295 kk) ?_
  refine And.imp_right (fun kk => z_iconst (pc := 297) hG kc_2 dL_law_297 kk) ?_
  refine And.imp_right (fun kk => z_iadd (pc := 298) hG dL_law_298 kk) ?_
  refine And.imp_right (fun kk => z_scr (pc := 299) hG hS 2 (by decide) rfl dL_law_299 kk) ?_
  refine And.imp_right (fun kk => z_aload_n (pc := 300) hG 0 rfl rfl dL_law_300 kk) ?_
  refine And.imp_right (fun kk => z_iload (pc := 301) hG 4 rfl dL_law_301 kk) ?_
  refine And.imp_right (fun kk => z_iconst (pc := 303) hG kc_3 dL_law_303 kk) ?_
  refine And.imp_right (fun kk => z_iadd (pc := 304) hG dL_law_304 kk) ?_
  refine And.imp_right (fun kk => z_scr (pc := 305) hG hS 3 (by decide) rfl dL_law_305 kk) ?_
  refine And.imp_right (fun kk => z_aload_n (pc := 306) hG 0 rfl rfl dL_law_306 kk) ?_
  refine And.imp_right (fun kk => z_iload (pc := 307) hG 4 rfl dL_law_307 kk) ?_
  refine And.imp_right (fun kk => z_iconst (pc := 309) hG kc_4 dL_law_309 kk) ?_
  refine And.imp_right (fun kk => z_iadd (pc := 310) hG dL_law_310 kk) ?_
  refine And.imp_right (fun kk => z_scr (pc := 311) hG hS 4 (by decide) rfl dL_law_311 kk) ?_
  refine And.imp_right (fun kk => z_aload_n (pc := 312) hG 0 rfl rfl dL_law_312 kk) ?_
  refine And.imp_right (fun kk => z_iload (pc := 313) hG 4 rfl dL_law_313 kk) ?_
  refine And.imp_right (fun kk => z_iconst (pc := 315) hG kc_5 dL_law_315 kk) ?_
  refine And.imp_right (fun kk => z_iadd (pc := 316) hG dL_law_316 kk) ?_
  refine And.imp_right (fun kk => z_scr (pc := 317) hG hS 5 (by decide) rfl dL_law_317 kk) ?_
  replace h := zbind h
  obtain ⟨v2, hv2, h⟩ := h
  replace h := zchk_some h
  obtain ⟨hqv2, h⟩ := h
  refine And.imp_right (fun kk => z_cvI (A' := A0 + (C / 64 - v1.2.2.2.2 / 64)) (B' := B0 + 2 * (C - v1.2.2.2.2)) (nc := 0) (ns := 0) (rest := []) hG [.int (a 1), .int (a 2), .int (a 3), .int (a 4), .int (a 5)] zc_X11 DL_42 (tX11_feed hl0 (a 1) (a 2) (a 3) (a 4) (a 5) v1.2 hv2) zy_X11_feed ⟨w1599, w1600⟩ w1598 dL_law_318 rfl (Nat.le_of_ble_eq_true rfl) (by omega) (by omega) rfl (Nat.le_of_ble_eq_true rfl) rfl kk) ?_
  refine zpc (of_decide_eq_true hqv2) ?_
  refine And.imp_right (fun kk => z_pop (pc := 321) hG rfl dL_law_321 kk) ?_
  refine And.imp_right (fun kk => z_goto (pc := 322) (tgt := 1967) hG dL_law_322 rfl kk) ?_
  obtain rfl := Option.some.inj h
  exact kf
noncomputable def nS_1 (a : Nat → Int32) (g : zS) : Option zS :=
  (nX10_end (a 1) g).bind fun v1 => zchk (decide (v1.2.2.2.2 = g.2.2.2)) ((nX11_end (a 1) v1.2).bind fun v2 => zchk (decide (v2.2.2.2.2 = v1.2.2.2.2)) (if v1.1 = v2.1 then (some v2.2) else (none)))
noncomputable def nU_1 (a : Nat → Int32) (g : zS) : Option zS :=
  (nX10_end (a 1) g).bind fun v1 => zchk (decide (v1.2.2.2.2 = g.2.2.2)) ((nX11_end (a 1) v1.2).bind fun v2 => zchk (decide (v2.2.2.2.2 = v1.2.2.2.2)) (some v2.2))
set_option maxHeartbeats 1000000 in
theorem tS_1 {x : zXx} {i : Int32} {a : Nat → Int32} (hl0 : (zl0 x).flags = flags0) (hG : zG x cL_law 7 RL ret) (hPx : zPx x.2.2.2.2.1) (hS : zScr x i a) {A0 B0 C : Nat} (g : zS) {r : zS} (h : nU_1 a g = some r) (kf : zgr r C ∧ zK x 66 1967 [(0, .ref 950), (1, .ref 0), (2, .ref 42), (3, .ref 72), (4, .int i)] [] zD r (A0 + (C / 64 - r.2.2.2 / 64)) (B0 + 2 * (C - r.2.2.2))) : zgr g C ∧ zK x 66 325 [(0, .ref 950), (1, .ref 0), (2, .ref 42), (3, .ref 72), (4, .int i)] [] zD g (A0 + 0 + (C / 64 - g.2.2.2 / 64)) (B0 + 0 + 2 * (C - g.2.2.2)) := by
  unfold nU_1 at h
  refine And.imp_right (fun kk => z_aload_n (pc := 325) hG 1 rfl rfl dL_law_325 kk) ?_
  refine And.imp_right (fun kk => z_aload_n (pc := 326) hG 0 rfl rfl dL_law_326 kk) ?_
  refine And.imp_right (fun kk => z_iload (pc := 327) hG 4 rfl dL_law_327 kk) ?_
  refine And.imp_right (fun kk => z_iconst (pc := 329) hG kc_1 dL_law_329 kk) ?_
  refine And.imp_right (fun kk => z_iadd (pc := 330) hG dL_law_330 kk) ?_
  refine And.imp_right (fun kk => z_scr (pc := 331) hG hS 1 (by decide) rfl dL_law_331 kk) ?_
  replace h := zbind h
  obtain ⟨v1, hv1, h⟩ := h
  replace h := zchk_some h
  obtain ⟨hqv1, h⟩ := h
  refine And.imp_right (fun kk => z_cvI (A' := A0 + (C / 64 - g.2.2.2 / 64)) (B' := B0 + 2 * (C - g.2.2.2)) (nc := 0) (ns := 0) (rest := []) hG [.int (a 1)] zc_X10 DL_0 (tX10_end hl0 (a 1) g hv1) zy_X10_end ⟨w332, w333⟩ w331 dL_law_332 rfl (Nat.le_of_ble_eq_true rfl) (by omega) (by omega) rfl (Nat.le_of_ble_eq_true rfl) rfl kk) ?_
  refine zpc (of_decide_eq_true hqv1) ?_
  refine And.imp_right (fun kk => z_pop (pc := 335) hG rfl dL_law_335 kk) ?_
  refine And.imp_right (fun kk => z_aload_n (pc := 336) hG 2 rfl rfl dL_law_336 kk) ?_
  refine And.imp_right (fun kk => z_aload_n (pc := 337) hG 0 rfl rfl dL_law_337 kk) ?_
  refine And.imp_right (fun kk => z_iload (pc := 338) hG 4 rfl dL_law_338 kk) ?_
  refine And.imp_right (fun kk => z_iconst (pc := 340) hG kc_1 dL_law_340 kk) ?_
  refine And.imp_right (fun kk => z_iadd (pc := 341) hG dL_law_341 kk) ?_
  refine And.imp_right (fun kk => z_scr (pc := 342) hG hS 1 (by decide) rfl dL_law_342 kk) ?_
  replace h := zbind h
  obtain ⟨v2, hv2, h⟩ := h
  replace h := zchk_some h
  obtain ⟨hqv2, h⟩ := h
  refine And.imp_right (fun kk => z_cvI (A' := A0 + (C / 64 - v1.2.2.2.2 / 64)) (B' := B0 + 2 * (C - v1.2.2.2.2)) (nc := 0) (ns := 0) (rest := []) hG [.int (a 1)] zc_X11 DL_42 (tX11_end hl0 (a 1) v1.2 hv2) zy_X11_end ⟨w1603, w1604⟩ w1602 dL_law_343 rfl (Nat.le_of_ble_eq_true rfl) (by omega) (by omega) rfl (Nat.le_of_ble_eq_true rfl) rfl kk) ?_
  refine zpc (of_decide_eq_true hqv2) ?_
  refine And.imp_right (fun kk => z_pop (pc := 346) hG rfl dL_law_346 kk) ?_
  refine And.imp_right (fun kk => z_goto (pc := 347) (tgt := 1967) hG dL_law_347 rfl kk) ?_
  obtain rfl := Option.some.inj h
  exact kf
noncomputable def nS_2 (a : Nat → Int32) (g : zS) : Option zS :=
  (nL_read  g).bind fun v1 => zchk (decide (v1.2.2.2.2 = g.2.2.2)) ((nX11_read v1.2).bind fun v2 => zchk (decide (v2.2.2.2.2 = v1.2.2.2.2)) ((nX11_thrown v2.2).bind fun v3 => if v3 = v1.1 then (if v1.1 = 0 then (if (lg_cmp (v2.2.2.1 72 (0 : Int32).toNatClampNeg) v2.1.toInt64) = 0 then (some v2.2) else (none)) else (some v2.2)) else (none)))
noncomputable def nU_2 (a : Nat → Int32) (g : zS) : Option zS :=
  (nL_read  g).bind fun v1 => zchk (decide (v1.2.2.2.2 = g.2.2.2)) ((nX11_read v1.2).bind fun v2 => zchk (decide (v2.2.2.2.2 = v1.2.2.2.2)) (some v2.2))
set_option maxHeartbeats 1000000 in
theorem tS_2 {x : zXx} {i : Int32} {a : Nat → Int32} (hl0 : (zl0 x).flags = flags0) (hG : zG x cL_law 7 RL ret) (hPx : zPx x.2.2.2.2.1) (hS : zScr x i a) {A0 B0 C : Nat} (g : zS) {r : zS} (h : nU_2 a g = some r) (kf : zgr r C ∧ zK x 66 1967 [(0, .ref 950), (1, .ref 0), (2, .ref 42), (3, .ref 72), (4, .int i)] [] zD r (A0 + (C / 64 - r.2.2.2 / 64)) (B0 + 2 * (C - r.2.2.2))) : zgr g C ∧ zK x 66 350 [(0, .ref 950), (1, .ref 0), (2, .ref 42), (3, .ref 72), (4, .int i)] [] zD g (A0 + 1 + (C / 64 - g.2.2.2 / 64)) (B0 + 6 + 2 * (C - g.2.2.2)) := by
  unfold nU_2 at h
  refine And.imp_right (fun kk => z_aload_n (pc := 350) hG 1 rfl rfl dL_law_350 kk) ?_
  refine And.imp_right (fun kk => z_aload_n (pc := 351) hG 3 rfl rfl dL_law_351 kk) ?_
  replace h := zbind h
  obtain ⟨v1, hv1, h⟩ := h
  replace h := zchk_some h
  obtain ⟨hqv1, h⟩ := h
  refine And.imp_right (fun kk => z_csH (A' := A0 + (C / 64 - g.2.2.2 / 64)) (B' := B0 + 2 * (C - g.2.2.2)) (rest := []) hG hPx [.ref 0, .ref 72] (tL_read hl0  g hv1) zyH_read w553 w552 dL_law_352 rfl (Nat.le_of_ble_eq_true rfl) (by omega) (by omega) rfl (Nat.le_of_ble_eq_true rfl) rfl kk) ?_
  refine zpc (of_decide_eq_true hqv1) ?_
  refine And.imp_right (fun kk => z_istore (pc := 355) (ls' := [(5, .int v1.1), (0, .ref 950), (1, .ref 0), (2, .ref 42), (3, .ref 72), (4, .int i)]) hG [0, 1, 2, 3, 4, 5] (by decide) rfl dL_law_355 kk) ?_
  refine And.imp_right (fun kk => z_aload_n (pc := 357) hG 3 rfl rfl dL_law_357 kk) ?_
  replace h := zbind h
  obtain ⟨v2, hv2, h⟩ := h
  replace h := zchk_some h
  obtain ⟨hqv2, h⟩ := h
  refine And.imp_right (fun kk => z_cvI (A' := A0 + (C / 64 - v1.2.2.2.2 / 64)) (B' := B0 + 2 * (C - v1.2.2.2.2)) (nc := 0) (ns := 0) (rest := []) hG [] zc_X11 DL_42 (tX11_read hl0  v1.2 hv2) zy_X11_read ⟨w1607, w1608⟩ w1606 dL_law_358 rfl (Nat.le_of_ble_eq_true rfl) (by omega) (by omega) rfl (Nat.le_of_ble_eq_true rfl) rfl kk) ?_
  refine zpc (of_decide_eq_true hqv2) ?_
  refine And.imp_right (fun kk => z_istore (pc := 361) (ls' := [(6, .int v2.1), (5, .int v1.1), (0, .ref 950), (1, .ref 0), (2, .ref 42), (3, .ref 72), (4, .int i)]) hG [0, 1, 2, 3, 4, 5, 6] (by decide) rfl dL_law_361 kk) ?_
  refine And.imp_right (fun kk => z_goto (pc := 363) (tgt := 1967) hG dL_law_363 rfl kk) ?_
  obtain rfl := Option.some.inj h
  refine And.imp_right (fun kk => z_sub (ls' := [(0, .ref 950), (1, .ref 0), (2, .ref 42), (3, .ref 72), (4, .int i)]) [2, 3, 4, 5, 6] rfl kk) ?_
  exact kf
noncomputable def nS_3 (a : Nat → Int32) (g : zS) : Option zS :=
  (nX10_fault g).bind fun v1 => (nX11_fault g).bind fun v2 => zchk (decide (v2.2.2.2.2 = g.2.2.2)) (if v1 = v2.1 then (some v2.2) else (none))
noncomputable def nU_3 (a : Nat → Int32) (g : zS) : Option zS :=
  (nX10_fault g).bind fun v1 => (nX11_fault g).bind fun v2 => zchk (decide (v2.2.2.2.2 = g.2.2.2)) (some v2.2)
set_option maxHeartbeats 1000000 in
theorem tS_3 {x : zXx} {i : Int32} {a : Nat → Int32} (hl0 : (zl0 x).flags = flags0) (hG : zG x cL_law 7 RL ret) (hPx : zPx x.2.2.2.2.1) (hS : zScr x i a) {A0 B0 C : Nat} (g : zS) {r : zS} (h : nU_3 a g = some r) (kf : zgr r C ∧ zK x 66 1967 [(0, .ref 950), (1, .ref 0), (2, .ref 42), (3, .ref 72), (4, .int i)] [] zD r (A0 + (C / 64 - r.2.2.2 / 64)) (B0 + 2 * (C - r.2.2.2))) : zgr g C ∧ zK x 66 366 [(0, .ref 950), (1, .ref 0), (2, .ref 42), (3, .ref 72), (4, .int i)] [] zD g (A0 + 0 + (C / 64 - g.2.2.2 / 64)) (B0 + 0 + 2 * (C - g.2.2.2)) := by
  unfold nU_3 at h
  refine And.imp_right (fun kk => z_aload_n (pc := 366) hG 1 rfl rfl dL_law_366 kk) ?_
  replace h := zbind h
  obtain ⟨v1, hv1, h⟩ := h
  refine And.imp_right (fun kk => z_cvI (A' := A0 + (C / 64 - g.2.2.2 / 64)) (B' := B0 + 2 * (C - g.2.2.2)) (nc := 0) (ns := 0) (rest := []) hG [] zc_X10 DL_0 (tX10_fault hl0  g hv1) zy_X10_fault ⟨w336, w337⟩ w335 dL_law_367 rfl (Nat.le_of_ble_eq_true rfl) (by omega) (by omega) rfl (Nat.le_of_ble_eq_true rfl) rfl kk) ?_
  refine And.imp_right (fun kk => z_pop (pc := 370) hG rfl dL_law_370 kk) ?_
  refine And.imp_right (fun kk => z_aload_n (pc := 371) hG 2 rfl rfl dL_law_371 kk) ?_
  replace h := zbind h
  obtain ⟨v2, hv2, h⟩ := h
  replace h := zchk_some h
  obtain ⟨hqv2, h⟩ := h
  refine And.imp_right (fun kk => z_cvI (A' := A0 + (C / 64 - g.2.2.2 / 64)) (B' := B0 + 2 * (C - g.2.2.2)) (nc := 0) (ns := 0) (rest := []) hG [] zc_X11 DL_42 (tX11_fault hl0  g hv2) zy_X11_fault ⟨w1691, w1692⟩ w1690 dL_law_372 rfl (Nat.le_of_ble_eq_true rfl) (by omega) (by omega) rfl (Nat.le_of_ble_eq_true rfl) rfl kk) ?_
  refine zpc (of_decide_eq_true hqv2) ?_
  refine And.imp_right (fun kk => z_pop (pc := 375) hG rfl dL_law_375 kk) ?_
  refine And.imp_right (fun kk => z_goto (pc := 376) (tgt := 1967) hG dL_law_376 rfl kk) ?_
  obtain rfl := Option.some.inj h
  exact kf
noncomputable def nS_4 (a : Nat → Int32) (g : zS) : Option zS :=
  (nL_field (a 1) (a 2) g).bind fun v1 => zchk (decide (v1.2.2.2.2 = g.2.2.2)) ((nX11_field (a 1) (a 2) v1.2).bind fun v2 => zchk (decide (v2.2.2.2.2 = v1.2.2.2.2)) ((nX11_thrown v2.2).bind fun v3 => if v3 = v1.1 then (if v1.1 = 0 then (if (lg_cmp (v2.2.2.1 72 (0 : Int32).toNatClampNeg) v2.1.toInt64) = 0 then (some v2.2) else (none)) else (some v2.2)) else (none)))
noncomputable def nU_4 (a : Nat → Int32) (g : zS) : Option zS :=
  (nL_field (a 1) (a 2) g).bind fun v1 => zchk (decide (v1.2.2.2.2 = g.2.2.2)) ((nX11_field (a 1) (a 2) v1.2).bind fun v2 => zchk (decide (v2.2.2.2.2 = v1.2.2.2.2)) (some v2.2))
set_option maxHeartbeats 1000000 in
theorem tS_4 {x : zXx} {i : Int32} {a : Nat → Int32} (hl0 : (zl0 x).flags = flags0) (hG : zG x cL_law 7 RL ret) (hPx : zPx x.2.2.2.2.1) (hS : zScr x i a) {A0 B0 C : Nat} (g : zS) {r : zS} (h : nU_4 a g = some r) (kf : zgr r C ∧ zK x 66 1967 [(0, .ref 950), (1, .ref 0), (2, .ref 42), (3, .ref 72), (4, .int i)] [] zD r (A0 + (C / 64 - r.2.2.2 / 64)) (B0 + 2 * (C - r.2.2.2))) : zgr g C ∧ zK x 66 379 [(0, .ref 950), (1, .ref 0), (2, .ref 42), (3, .ref 72), (4, .int i)] [] zD g (A0 + 2 + (C / 64 - g.2.2.2 / 64)) (B0 + 12 + 2 * (C - g.2.2.2)) := by
  unfold nU_4 at h
  refine And.imp_right (fun kk => z_aload_n (pc := 379) hG 1 rfl rfl dL_law_379 kk) ?_
  refine And.imp_right (fun kk => z_aload_n (pc := 380) hG 0 rfl rfl dL_law_380 kk) ?_
  refine And.imp_right (fun kk => z_iload (pc := 381) hG 4 rfl dL_law_381 kk) ?_
  refine And.imp_right (fun kk => z_iconst (pc := 383) hG kc_1 dL_law_383 kk) ?_
  refine And.imp_right (fun kk => z_iadd (pc := 384) hG dL_law_384 kk) ?_
  refine And.imp_right (fun kk => z_scr (pc := 385) hG hS 1 (by decide) rfl dL_law_385 kk) ?_
  refine And.imp_right (fun kk => z_aload_n (pc := 386) hG 0 rfl rfl dL_law_386 kk) ?_
  refine And.imp_right (fun kk => z_iload (pc := 387) hG 4 rfl dL_law_387 kk) ?_
  refine And.imp_right (fun kk => z_iconst (pc := 389) hG kc_2 dL_law_389 kk) ?_
  refine And.imp_right (fun kk => z_iadd (pc := 390) hG dL_law_390 kk) ?_
  refine And.imp_right (fun kk => z_scr (pc := 391) hG hS 2 (by decide) rfl dL_law_391 kk) ?_
  refine And.imp_right (fun kk => z_aload_n (pc := 392) hG 3 rfl rfl dL_law_392 kk) ?_
  replace h := zbind h
  obtain ⟨v1, hv1, h⟩ := h
  replace h := zchk_some h
  obtain ⟨hqv1, h⟩ := h
  refine And.imp_right (fun kk => z_csH (A' := A0 + (C / 64 - g.2.2.2 / 64)) (B' := B0 + 2 * (C - g.2.2.2)) (rest := []) hG hPx [.ref 0, .int (a 1), .int (a 2), .ref 72] (tL_field hl0 (a 1) (a 2) g hv1) zyH_field w825 w824 dL_law_393 rfl (Nat.le_of_ble_eq_true rfl) (by omega) (by omega) rfl (Nat.le_of_ble_eq_true rfl) rfl kk) ?_
  refine zpc (of_decide_eq_true hqv1) ?_
  refine And.imp_right (fun kk => z_istore (pc := 396) (ls' := [(5, .int v1.1), (0, .ref 950), (1, .ref 0), (2, .ref 42), (3, .ref 72), (4, .int i)]) hG [0, 1, 2, 3, 4, 5] (by decide) rfl dL_law_396 kk) ?_
  refine And.imp_right (fun kk => z_aload_n (pc := 398) hG 3 rfl rfl dL_law_398 kk) ?_
  refine And.imp_right (fun kk => z_aload_n (pc := 399) hG 1 rfl rfl dL_law_399 kk) ?_
  refine And.imp_right (fun kk => z_iload (pc := 400) hG 5 rfl dL_law_400 kk) ?_
  refine And.imp_right (fun kk => z_iconst (pc := 402) hG kc_1 dL_law_402 kk) ?_
  refine And.imp_right (fun kk => z_iadd (pc := 403) hG dL_law_403 kk) ?_
  refine And.imp_right (fun kk => z_scr (pc := 404) hG hS 1 (by decide) rfl dL_law_404 kk) ?_
  refine And.imp_right (fun kk => z_aload_n (pc := 405) hG 1 rfl rfl dL_law_405 kk) ?_
  refine And.imp_right (fun kk => z_iload (pc := 406) hG 5 rfl dL_law_406 kk) ?_
  refine And.imp_right (fun kk => z_iconst (pc := 408) hG kc_2 dL_law_408 kk) ?_
  refine And.imp_right (fun kk => z_iadd (pc := 409) hG dL_law_409 kk) ?_
  refine And.imp_right (fun kk => z_scr (pc := 410) hG hS 2 (by decide) rfl dL_law_410 kk) ?_
  replace h := zbind h
  obtain ⟨v2, hv2, h⟩ := h
  replace h := zchk_some h
  obtain ⟨hqv2, h⟩ := h
  refine And.imp_right (fun kk => z_cvI (A' := A0 + (C / 64 - v1.2.2.2.2 / 64)) (B' := B0 + 2 * (C - v1.2.2.2.2)) (nc := 0) (ns := 0) (rest := []) hG [.int (a 1), .int (a 2)] zc_X11 DL_42 (tX11_field hl0 (a 1) (a 2) v1.2 hv2) zy_X11_field ⟨w1695, w1696⟩ w1694 dL_law_411 rfl (Nat.le_of_ble_eq_true rfl) (by omega) (by omega) rfl (Nat.le_of_ble_eq_true rfl) rfl kk) ?_
  refine zpc (of_decide_eq_true hqv2) ?_
  refine And.imp_right (fun kk => z_istore (pc := 414) (ls' := [(6, .int v2.1), (5, .int v1.1), (0, .ref 950), (1, .ref 0), (2, .ref 42), (3, .ref 72), (4, .int i)]) hG [0, 1, 2, 3, 4, 5, 6] (by decide) rfl dL_law_414 kk) ?_
  refine And.imp_right (fun kk => z_goto (pc := 416) (tgt := 1967) hG dL_law_416 rfl kk) ?_
  obtain rfl := Option.some.inj h
  refine And.imp_right (fun kk => z_sub (ls' := [(0, .ref 950), (1, .ref 0), (2, .ref 42), (3, .ref 72), (4, .int i)]) [2, 3, 4, 5, 6] rfl kk) ?_
  exact kf
noncomputable def nS_5 (a : Nat → Int32) (g : zS) : Option zS :=
  (nL_name (a 1) (a 2) g).bind fun v1 => zchk (decide (v1.2.2.2.2 = g.2.2.2)) ((nX11_name (a 1) (a 2) v1.2).bind fun v2 => zchk (decide (v2.2.2.2.2 = v1.2.2.2.2)) ((nX11_thrown v2.2).bind fun v3 => if v3 = v1.1 then (if v1.1 = 0 then (if (lg_cmp (v2.2.2.1 72 (0 : Int32).toNatClampNeg) v2.1.toInt64) = 0 then (some v2.2) else (none)) else (some v2.2)) else (none)))
noncomputable def nU_5 (a : Nat → Int32) (g : zS) : Option zS :=
  (nL_name (a 1) (a 2) g).bind fun v1 => zchk (decide (v1.2.2.2.2 = g.2.2.2)) ((nX11_name (a 1) (a 2) v1.2).bind fun v2 => zchk (decide (v2.2.2.2.2 = v1.2.2.2.2)) (some v2.2))
set_option maxHeartbeats 1000000 in
theorem tS_5 {x : zXx} {i : Int32} {a : Nat → Int32} (hl0 : (zl0 x).flags = flags0) (hG : zG x cL_law 7 RL ret) (hPx : zPx x.2.2.2.2.1) (hS : zScr x i a) {A0 B0 C : Nat} (g : zS) {r : zS} (h : nU_5 a g = some r) (kf : zgr r C ∧ zK x 66 1967 [(0, .ref 950), (1, .ref 0), (2, .ref 42), (3, .ref 72), (4, .int i)] [] zD r (A0 + (C / 64 - r.2.2.2 / 64)) (B0 + 2 * (C - r.2.2.2))) : zgr g C ∧ zK x 66 419 [(0, .ref 950), (1, .ref 0), (2, .ref 42), (3, .ref 72), (4, .int i)] [] zD g (A0 + 1 + (C / 64 - g.2.2.2 / 64)) (B0 + 6 + 2 * (C - g.2.2.2)) := by
  unfold nU_5 at h
  refine And.imp_right (fun kk => z_aload_n (pc := 419) hG 1 rfl rfl dL_law_419 kk) ?_
  refine And.imp_right (fun kk => z_aload_n (pc := 420) hG 0 rfl rfl dL_law_420 kk) ?_
  refine And.imp_right (fun kk => z_iload (pc := 421) hG 4 rfl dL_law_421 kk) ?_
  refine And.imp_right (fun kk => z_iconst (pc := 423) hG kc_1 dL_law_423 kk) ?_
  refine And.imp_right (fun kk => z_iadd (pc := 424) hG dL_law_424 kk) ?_
  refine And.imp_right (fun kk => z_scr (pc := 425) hG hS 1 (by decide) rfl dL_law_425 kk) ?_
  refine And.imp_right (fun kk => z_aload_n (pc := 426) hG 0 rfl rfl dL_law_426 kk) ?_
  refine And.imp_right (fun kk => z_iload (pc := 427) hG 4 rfl dL_law_427 kk) ?_
  refine And.imp_right (fun kk => z_iconst (pc := 429) hG kc_2 dL_law_429 kk) ?_
  refine And.imp_right (fun kk => z_iadd (pc := 430) hG dL_law_430 kk) ?_
  refine And.imp_right (fun kk => z_scr (pc := 431) hG hS 2 (by decide) rfl dL_law_431 kk) ?_
  refine And.imp_right (fun kk => z_aload_n (pc := 432) hG 3 rfl rfl dL_law_432 kk) ?_
  replace h := zbind h
  obtain ⟨v1, hv1, h⟩ := h
  replace h := zchk_some h
  obtain ⟨hqv1, h⟩ := h
  refine And.imp_right (fun kk => z_csH (A' := A0 + (C / 64 - g.2.2.2 / 64)) (B' := B0 + 2 * (C - g.2.2.2)) (rest := []) hG hPx [.ref 0, .int (a 1), .int (a 2), .ref 72] (tL_name hl0 (a 1) (a 2) g hv1) zyH_name w868 w867 dL_law_433 rfl (Nat.le_of_ble_eq_true rfl) (by omega) (by omega) rfl (Nat.le_of_ble_eq_true rfl) rfl kk) ?_
  refine zpc (of_decide_eq_true hqv1) ?_
  refine And.imp_right (fun kk => z_istore (pc := 436) (ls' := [(5, .int v1.1), (0, .ref 950), (1, .ref 0), (2, .ref 42), (3, .ref 72), (4, .int i)]) hG [0, 1, 2, 3, 4, 5] (by decide) rfl dL_law_436 kk) ?_
  refine And.imp_right (fun kk => z_aload_n (pc := 438) hG 3 rfl rfl dL_law_438 kk) ?_
  refine And.imp_right (fun kk => z_aload_n (pc := 439) hG 1 rfl rfl dL_law_439 kk) ?_
  refine And.imp_right (fun kk => z_iload (pc := 440) hG 5 rfl dL_law_440 kk) ?_
  refine And.imp_right (fun kk => z_iconst (pc := 442) hG kc_1 dL_law_442 kk) ?_
  refine And.imp_right (fun kk => z_iadd (pc := 443) hG dL_law_443 kk) ?_
  refine And.imp_right (fun kk => z_scr (pc := 444) hG hS 1 (by decide) rfl dL_law_444 kk) ?_
  refine And.imp_right (fun kk => z_aload_n (pc := 445) hG 1 rfl rfl dL_law_445 kk) ?_
  refine And.imp_right (fun kk => z_iload (pc := 446) hG 5 rfl dL_law_446 kk) ?_
  refine And.imp_right (fun kk => z_iconst (pc := 448) hG kc_2 dL_law_448 kk) ?_
  refine And.imp_right (fun kk => z_iadd (pc := 449) hG dL_law_449 kk) ?_
  refine And.imp_right (fun kk => z_scr (pc := 450) hG hS 2 (by decide) rfl dL_law_450 kk) ?_
  replace h := zbind h
  obtain ⟨v2, hv2, h⟩ := h
  replace h := zchk_some h
  obtain ⟨hqv2, h⟩ := h
  refine And.imp_right (fun kk => z_cvI (A' := A0 + (C / 64 - v1.2.2.2.2 / 64)) (B' := B0 + 2 * (C - v1.2.2.2.2)) (nc := 0) (ns := 0) (rest := []) hG [.int (a 1), .int (a 2)] zc_X11 DL_42 (tX11_name hl0 (a 1) (a 2) v1.2 hv2) zy_X11_name ⟨w1703, w1704⟩ w1702 dL_law_451 rfl (Nat.le_of_ble_eq_true rfl) (by omega) (by omega) rfl (Nat.le_of_ble_eq_true rfl) rfl kk) ?_
  refine zpc (of_decide_eq_true hqv2) ?_
  refine And.imp_right (fun kk => z_istore (pc := 454) (ls' := [(6, .int v2.1), (5, .int v1.1), (0, .ref 950), (1, .ref 0), (2, .ref 42), (3, .ref 72), (4, .int i)]) hG [0, 1, 2, 3, 4, 5, 6] (by decide) rfl dL_law_454 kk) ?_
  refine And.imp_right (fun kk => z_goto (pc := 456) (tgt := 1967) hG dL_law_456 rfl kk) ?_
  obtain rfl := Option.some.inj h
  refine And.imp_right (fun kk => z_sub (ls' := [(0, .ref 950), (1, .ref 0), (2, .ref 42), (3, .ref 72), (4, .int i)]) [2, 3, 4, 5, 6] rfl kk) ?_
  exact kf
noncomputable def nS_6 (a : Nat → Int32) (g : zS) : Option zS :=
  (nL_edit (a 1) (a 2) g).bind fun v1 => zchk (decide (v1.2.2.2.2 = g.2.2.2)) ((nX11_edit (a 1) (a 2) v1.2).bind fun v2 => zchk (decide (v2.2.2.2.2 = v1.2.2.2.2)) ((nX11_thrown v2.2).bind fun v3 => if v3 = v1.1 then (if v1.1 = 0 then (if (lg_cmp (v2.2.2.1 72 (0 : Int32).toNatClampNeg) v2.1.toInt64) = 0 then (some v2.2) else (none)) else (some v2.2)) else (none)))
noncomputable def nU_6 (a : Nat → Int32) (g : zS) : Option zS :=
  (nL_edit (a 1) (a 2) g).bind fun v1 => zchk (decide (v1.2.2.2.2 = g.2.2.2)) ((nX11_edit (a 1) (a 2) v1.2).bind fun v2 => zchk (decide (v2.2.2.2.2 = v1.2.2.2.2)) (some v2.2))
set_option maxHeartbeats 1000000 in
theorem tS_6 {x : zXx} {i : Int32} {a : Nat → Int32} (hl0 : (zl0 x).flags = flags0) (hG : zG x cL_law 7 RL ret) (hPx : zPx x.2.2.2.2.1) (hS : zScr x i a) {A0 B0 C : Nat} (g : zS) {r : zS} (h : nU_6 a g = some r) (kf : zgr r C ∧ zK x 66 1967 [(0, .ref 950), (1, .ref 0), (2, .ref 42), (3, .ref 72), (4, .int i)] [] zD r (A0 + (C / 64 - r.2.2.2 / 64)) (B0 + 2 * (C - r.2.2.2))) : zgr g C ∧ zK x 66 459 [(0, .ref 950), (1, .ref 0), (2, .ref 42), (3, .ref 72), (4, .int i)] [] zD g (A0 + 2 + (C / 64 - g.2.2.2 / 64)) (B0 + 12 + 2 * (C - g.2.2.2)) := by
  unfold nU_6 at h
  refine And.imp_right (fun kk => z_aload_n (pc := 459) hG 1 rfl rfl dL_law_459 kk) ?_
  refine And.imp_right (fun kk => z_aload_n (pc := 460) hG 0 rfl rfl dL_law_460 kk) ?_
  refine And.imp_right (fun kk => z_iload (pc := 461) hG 4 rfl dL_law_461 kk) ?_
  refine And.imp_right (fun kk => z_iconst (pc := 463) hG kc_1 dL_law_463 kk) ?_
  refine And.imp_right (fun kk => z_iadd (pc := 464) hG dL_law_464 kk) ?_
  refine And.imp_right (fun kk => z_scr (pc := 465) hG hS 1 (by decide) rfl dL_law_465 kk) ?_
  refine And.imp_right (fun kk => z_aload_n (pc := 466) hG 0 rfl rfl dL_law_466 kk) ?_
  refine And.imp_right (fun kk => z_iload (pc := 467) hG 4 rfl dL_law_467 kk) ?_
  refine And.imp_right (fun kk => z_iconst (pc := 469) hG kc_2 dL_law_469 kk) ?_
  refine And.imp_right (fun kk => z_iadd (pc := 470) hG dL_law_470 kk) ?_
  refine And.imp_right (fun kk => z_scr (pc := 471) hG hS 2 (by decide) rfl dL_law_471 kk) ?_
  refine And.imp_right (fun kk => z_aload_n (pc := 472) hG 3 rfl rfl dL_law_472 kk) ?_
  replace h := zbind h
  obtain ⟨v1, hv1, h⟩ := h
  replace h := zchk_some h
  obtain ⟨hqv1, h⟩ := h
  refine And.imp_right (fun kk => z_csH (A' := A0 + (C / 64 - g.2.2.2 / 64)) (B' := B0 + 2 * (C - g.2.2.2)) (rest := []) hG hPx [.ref 0, .int (a 1), .int (a 2), .ref 72] (tL_edit hl0 (a 1) (a 2) g hv1) zyH_edit w876 w875 dL_law_473 rfl (Nat.le_of_ble_eq_true rfl) (by omega) (by omega) rfl (Nat.le_of_ble_eq_true rfl) rfl kk) ?_
  refine zpc (of_decide_eq_true hqv1) ?_
  refine And.imp_right (fun kk => z_istore (pc := 476) (ls' := [(5, .int v1.1), (0, .ref 950), (1, .ref 0), (2, .ref 42), (3, .ref 72), (4, .int i)]) hG [0, 1, 2, 3, 4, 5] (by decide) rfl dL_law_476 kk) ?_
  refine And.imp_right (fun kk => z_aload_n (pc := 478) hG 3 rfl rfl dL_law_478 kk) ?_
  refine And.imp_right (fun kk => z_aload_n (pc := 479) hG 1 rfl rfl dL_law_479 kk) ?_
  refine And.imp_right (fun kk => z_iload (pc := 480) hG 5 rfl dL_law_480 kk) ?_
  refine And.imp_right (fun kk => z_iconst (pc := 482) hG kc_1 dL_law_482 kk) ?_
  refine And.imp_right (fun kk => z_iadd (pc := 483) hG dL_law_483 kk) ?_
  refine And.imp_right (fun kk => z_scr (pc := 484) hG hS 1 (by decide) rfl dL_law_484 kk) ?_
  refine And.imp_right (fun kk => z_aload_n (pc := 485) hG 1 rfl rfl dL_law_485 kk) ?_
  refine And.imp_right (fun kk => z_iload (pc := 486) hG 5 rfl dL_law_486 kk) ?_
  refine And.imp_right (fun kk => z_iconst (pc := 488) hG kc_2 dL_law_488 kk) ?_
  refine And.imp_right (fun kk => z_iadd (pc := 489) hG dL_law_489 kk) ?_
  refine And.imp_right (fun kk => z_scr (pc := 490) hG hS 2 (by decide) rfl dL_law_490 kk) ?_
  replace h := zbind h
  obtain ⟨v2, hv2, h⟩ := h
  replace h := zchk_some h
  obtain ⟨hqv2, h⟩ := h
  refine And.imp_right (fun kk => z_cvI (A' := A0 + (C / 64 - v1.2.2.2.2 / 64)) (B' := B0 + 2 * (C - v1.2.2.2.2)) (nc := 0) (ns := 0) (rest := []) hG [.int (a 1), .int (a 2)] zc_X11 DL_42 (tX11_edit hl0 (a 1) (a 2) v1.2 hv2) zy_X11_edit ⟨w1713, w1714⟩ w1712 dL_law_491 rfl (Nat.le_of_ble_eq_true rfl) (by omega) (by omega) rfl (Nat.le_of_ble_eq_true rfl) rfl kk) ?_
  refine zpc (of_decide_eq_true hqv2) ?_
  refine And.imp_right (fun kk => z_istore (pc := 494) (ls' := [(6, .int v2.1), (5, .int v1.1), (0, .ref 950), (1, .ref 0), (2, .ref 42), (3, .ref 72), (4, .int i)]) hG [0, 1, 2, 3, 4, 5, 6] (by decide) rfl dL_law_494 kk) ?_
  refine And.imp_right (fun kk => z_goto (pc := 496) (tgt := 1967) hG dL_law_496 rfl kk) ?_
  obtain rfl := Option.some.inj h
  refine And.imp_right (fun kk => z_sub (ls' := [(0, .ref 950), (1, .ref 0), (2, .ref 42), (3, .ref 72), (4, .int i)]) [2, 3, 4, 5, 6] rfl kk) ?_
  exact kf
noncomputable def nS_7 (a : Nat → Int32) (g : zS) : Option zS :=
  (nL_from (a 1) g).bind fun v1 => zchk (decide (g.2.2.2 ≤ v1.2.2.2.2)) ((nX11_from (a 1) v1.2).bind fun v2 => zchk (decide (v2.2.2.2.2 = v1.2.2.2.2)) ((nX11_thrown v2.2).bind fun v3 => if v3 = v1.1 then (if v1.1 = 0 then (if (lg_cmp (v2.2.2.1 72 (0 : Int32).toNatClampNeg) v2.1.toInt64) = 0 then (some v2.2) else (none)) else (some v2.2)) else (none)))
noncomputable def nU_7 (a : Nat → Int32) (g : zS) : Option zS :=
  (nL_from (a 1) g).bind fun v1 => zchk (decide (g.2.2.2 ≤ v1.2.2.2.2)) ((nX11_from (a 1) v1.2).bind fun v2 => zchk (decide (v2.2.2.2.2 = v1.2.2.2.2)) (some v2.2))
set_option maxHeartbeats 1000000 in
theorem tS_7 {x : zXx} {i : Int32} {a : Nat → Int32} (hl0 : (zl0 x).flags = flags0) (hG : zG x cL_law 7 RL ret) (hPx : zPx x.2.2.2.2.1) (hS : zScr x i a) {A0 B0 C : Nat} (g : zS) {r : zS} (h : nU_7 a g = some r) (kf : zgr r C ∧ zK x 66 1967 [(0, .ref 950), (1, .ref 0), (2, .ref 42), (3, .ref 72), (4, .int i)] [] zD r (A0 + (C / 64 - r.2.2.2 / 64)) (B0 + 2 * (C - r.2.2.2))) : zgr g C ∧ zK x 66 499 [(0, .ref 950), (1, .ref 0), (2, .ref 42), (3, .ref 72), (4, .int i)] [] zD g (A0 + 1 + (C / 64 - g.2.2.2 / 64)) (B0 + 6 + 2 * (C - g.2.2.2)) := by
  unfold nU_7 at h
  refine And.imp_right (fun kk => z_aload_n (pc := 499) hG 1 rfl rfl dL_law_499 kk) ?_
  refine And.imp_right (fun kk => z_aload_n (pc := 500) hG 0 rfl rfl dL_law_500 kk) ?_
  refine And.imp_right (fun kk => z_iload (pc := 501) hG 4 rfl dL_law_501 kk) ?_
  refine And.imp_right (fun kk => z_iconst (pc := 503) hG kc_1 dL_law_503 kk) ?_
  refine And.imp_right (fun kk => z_iadd (pc := 504) hG dL_law_504 kk) ?_
  refine And.imp_right (fun kk => z_scr (pc := 505) hG hS 1 (by decide) rfl dL_law_505 kk) ?_
  refine And.imp_right (fun kk => z_aload_n (pc := 506) hG 3 rfl rfl dL_law_506 kk) ?_
  replace h := zbind h
  obtain ⟨v1, hv1, h⟩ := h
  replace h := zchk_some h
  obtain ⟨hqv1, h⟩ := h
  replace hqv1 := of_decide_eq_true hqv1
  refine And.elim (fun hb kk => ⟨Nat.le_trans hqv1 hb, z_csH (A' := A0 + (C / 64 - v1.2.2.2.2 / 64)) (B' := B0 + 2 * (C - v1.2.2.2.2)) (rest := []) hG hPx [.ref 0, .int (a 1), .ref 72] (tL_from hl0 (a 1) g hv1) zyH_from w888 w887 dL_law_507 rfl (Nat.le_of_ble_eq_true rfl) (by have hb : v1.2.2.2.2 ≤ C := hb; omega) (by have hb : v1.2.2.2.2 ≤ C := hb; omega) rfl (Nat.le_of_ble_eq_true rfl) rfl kk⟩) ?_
  refine And.imp_right (fun kk => z_istore (pc := 510) (ls' := [(5, .int v1.1), (0, .ref 950), (1, .ref 0), (2, .ref 42), (3, .ref 72), (4, .int i)]) hG [0, 1, 2, 3, 4, 5] (by decide) rfl dL_law_510 kk) ?_
  refine And.imp_right (fun kk => z_aload_n (pc := 512) hG 3 rfl rfl dL_law_512 kk) ?_
  refine And.imp_right (fun kk => z_aload_n (pc := 513) hG 1 rfl rfl dL_law_513 kk) ?_
  refine And.imp_right (fun kk => z_iload (pc := 514) hG 5 rfl dL_law_514 kk) ?_
  refine And.imp_right (fun kk => z_iconst (pc := 516) hG kc_1 dL_law_516 kk) ?_
  refine And.imp_right (fun kk => z_iadd (pc := 517) hG dL_law_517 kk) ?_
  refine And.imp_right (fun kk => z_scr (pc := 518) hG hS 1 (by decide) rfl dL_law_518 kk) ?_
  replace h := zbind h
  obtain ⟨v2, hv2, h⟩ := h
  replace h := zchk_some h
  obtain ⟨hqv2, h⟩ := h
  refine And.imp_right (fun kk => z_cvI (A' := A0 + (C / 64 - v1.2.2.2.2 / 64)) (B' := B0 + 2 * (C - v1.2.2.2.2)) (nc := 0) (ns := 0) (rest := []) hG [.int (a 1)] zc_X11 DL_42 (tX11_from hl0 (a 1) v1.2 hv2) zy_X11_from ⟨w1721, w1722⟩ w1720 dL_law_519 rfl (Nat.le_of_ble_eq_true rfl) (by omega) (by omega) rfl (Nat.le_of_ble_eq_true rfl) rfl kk) ?_
  refine zpc (of_decide_eq_true hqv2) ?_
  refine And.imp_right (fun kk => z_istore (pc := 522) (ls' := [(6, .int v2.1), (5, .int v1.1), (0, .ref 950), (1, .ref 0), (2, .ref 42), (3, .ref 72), (4, .int i)]) hG [0, 1, 2, 3, 4, 5, 6] (by decide) rfl dL_law_522 kk) ?_
  refine And.imp_right (fun kk => z_goto (pc := 524) (tgt := 1967) hG dL_law_524 rfl kk) ?_
  obtain rfl := Option.some.inj h
  refine And.imp_right (fun kk => z_sub (ls' := [(0, .ref 950), (1, .ref 0), (2, .ref 42), (3, .ref 72), (4, .int i)]) [2, 3, 4, 5, 6] rfl kk) ?_
  exact kf
noncomputable def nS_8 (a : Nat → Int32) (g : zS) : Option zS :=
  if (a 2) = 0 then ((nL_cover (a 1) (0 : Int32) g).bind fun v1 => zchk (decide (g.2.2.2 ≤ v1.2.2.2.2)) (if (a 2) = 0 then ((nX11_cover (a 1) (0 : Int32) v1.2).bind fun v2 => zchk (decide (v2.2.2.2.2 = v1.2.2.2.2)) ((nX11_thrown v2.2).bind fun v3 => if v3 = v1.1 then (if v1.1 = 0 then (if (lg_cmp (v2.2.2.1 72 (0 : Int32).toNatClampNeg) v2.1.toInt64) = 0 then (some v2.2) else (none)) else (some v2.2)) else (none))) else ((nX11_cover (a 1) (1 : Int32) v1.2).bind fun v4 => zchk (decide (v4.2.2.2.2 = v1.2.2.2.2)) ((nX11_thrown v4.2).bind fun v5 => if v5 = v1.1 then (if v1.1 = 0 then (if (lg_cmp (v4.2.2.1 72 (0 : Int32).toNatClampNeg) v4.1.toInt64) = 0 then (some v4.2) else (none)) else (some v4.2)) else (none))))) else ((nL_cover (a 1) (1 : Int32) g).bind fun v6 => zchk (decide (g.2.2.2 ≤ v6.2.2.2.2)) (if (a 2) = 0 then ((nX11_cover (a 1) (0 : Int32) v6.2).bind fun v7 => zchk (decide (v7.2.2.2.2 = v6.2.2.2.2)) ((nX11_thrown v7.2).bind fun v8 => if v8 = v6.1 then (if v6.1 = 0 then (if (lg_cmp (v7.2.2.1 72 (0 : Int32).toNatClampNeg) v7.1.toInt64) = 0 then (some v7.2) else (none)) else (some v7.2)) else (none))) else ((nX11_cover (a 1) (1 : Int32) v6.2).bind fun v9 => zchk (decide (v9.2.2.2.2 = v6.2.2.2.2)) ((nX11_thrown v9.2).bind fun v10 => if v10 = v6.1 then (if v6.1 = 0 then (if (lg_cmp (v9.2.2.1 72 (0 : Int32).toNatClampNeg) v9.1.toInt64) = 0 then (some v9.2) else (none)) else (some v9.2)) else (none)))))
noncomputable def nU_8 (a : Nat → Int32) (g : zS) : Option zS :=
  if (a 2) = 0 then ((nL_cover (a 1) (0 : Int32) g).bind fun v1 => zchk (decide (g.2.2.2 ≤ v1.2.2.2.2)) (if (a 2) = 0 then ((nX11_cover (a 1) (0 : Int32) v1.2).bind fun v2 => zchk (decide (v2.2.2.2.2 = v1.2.2.2.2)) (some v2.2)) else ((nX11_cover (a 1) (1 : Int32) v1.2).bind fun v3 => zchk (decide (v3.2.2.2.2 = v1.2.2.2.2)) (some v3.2)))) else ((nL_cover (a 1) (1 : Int32) g).bind fun v4 => zchk (decide (g.2.2.2 ≤ v4.2.2.2.2)) (if (a 2) = 0 then ((nX11_cover (a 1) (0 : Int32) v4.2).bind fun v5 => zchk (decide (v5.2.2.2.2 = v4.2.2.2.2)) (some v5.2)) else ((nX11_cover (a 1) (1 : Int32) v4.2).bind fun v6 => zchk (decide (v6.2.2.2.2 = v4.2.2.2.2)) (some v6.2))))
set_option maxHeartbeats 1000000 in
theorem tS_8 {x : zXx} {i : Int32} {a : Nat → Int32} (hl0 : (zl0 x).flags = flags0) (hG : zG x cL_law 7 RL ret) (hPx : zPx x.2.2.2.2.1) (hS : zScr x i a) {A0 B0 C : Nat} (g : zS) {r : zS} (h : nU_8 a g = some r) (kf : zgr r C ∧ zK x 66 1967 [(0, .ref 950), (1, .ref 0), (2, .ref 42), (3, .ref 72), (4, .int i)] [] zD r (A0 + (C / 64 - r.2.2.2 / 64)) (B0 + 2 * (C - r.2.2.2))) : zgr g C ∧ zK x 66 527 [(0, .ref 950), (1, .ref 0), (2, .ref 42), (3, .ref 72), (4, .int i)] [] zD g (A0 + 1 + (C / 64 - g.2.2.2 / 64)) (B0 + 6 + 2 * (C - g.2.2.2)) := by
  unfold nU_8 at h
  refine And.imp_right (fun kk => z_aload_n (pc := 527) hG 1 rfl rfl dL_law_527 kk) ?_
  refine And.imp_right (fun kk => z_aload_n (pc := 528) hG 0 rfl rfl dL_law_528 kk) ?_
  refine And.imp_right (fun kk => z_iload (pc := 529) hG 4 rfl dL_law_529 kk) ?_
  refine And.imp_right (fun kk => z_iconst (pc := 531) hG kc_1 dL_law_531 kk) ?_
  refine And.imp_right (fun kk => z_iadd (pc := 532) hG dL_law_532 kk) ?_
  refine And.imp_right (fun kk => z_scr (pc := 533) hG hS 1 (by decide) rfl dL_law_533 kk) ?_
  refine And.imp_right (fun kk => z_aload_n (pc := 534) hG 0 rfl rfl dL_law_534 kk) ?_
  refine And.imp_right (fun kk => z_iload (pc := 535) hG 4 rfl dL_law_535 kk) ?_
  refine And.imp_right (fun kk => z_iconst (pc := 537) hG kc_2 dL_law_537 kk) ?_
  refine And.imp_right (fun kk => z_iadd (pc := 538) hG dL_law_538 kk) ?_
  refine And.imp_right (fun kk => z_scr (pc := 539) hG hS 2 (by decide) rfl dL_law_539 kk) ?_
  refine zbr (c := (a 2) = 0) (fun hc => ?_) (fun hc => ?_) (fun k1 k2 => z_if_eq (pc := 540) (tgt := 547) hG dL_law_540 rfl k1 k2)
  · replace h := zif_t hc h
    refine And.imp_right (fun kk => z_iconst (pc := 547) hG kc_0 dL_law_547 kk) ?_
    refine And.imp_right (fun kk => z_aload_n (pc := 548) hG 3 rfl rfl dL_law_548 kk) ?_
    replace h := zbind h
    obtain ⟨v1, hv1, h⟩ := h
    replace h := zchk_some h
    obtain ⟨hqv1, h⟩ := h
    replace hqv1 := of_decide_eq_true hqv1
    refine And.elim (fun hb kk => ⟨Nat.le_trans hqv1 hb, z_csH (A' := A0 + (C / 64 - v1.2.2.2.2 / 64)) (B' := B0 + 2 * (C - v1.2.2.2.2)) (rest := []) hG hPx [.ref 0, .int (a 1), .int (0 : Int32), .ref 72] (tL_cover hl0 (a 1) (0 : Int32) g hv1) zyH_cover w910 w909 dL_law_549 rfl (Nat.le_of_ble_eq_true rfl) (by have hb : v1.2.2.2.2 ≤ C := hb; omega) (by have hb : v1.2.2.2.2 ≤ C := hb; omega) rfl (Nat.le_of_ble_eq_true rfl) rfl kk⟩) ?_
    refine And.imp_right (fun kk => z_istore (pc := 552) (ls' := [(5, .int v1.1), (0, .ref 950), (1, .ref 0), (2, .ref 42), (3, .ref 72), (4, .int i)]) hG [0, 1, 2, 3, 4, 5] (by decide) rfl dL_law_552 kk) ?_
    refine And.imp_right (fun kk => z_aload_n (pc := 554) hG 3 rfl rfl dL_law_554 kk) ?_
    refine And.imp_right (fun kk => z_aload_n (pc := 555) hG 1 rfl rfl dL_law_555 kk) ?_
    refine And.imp_right (fun kk => z_iload (pc := 556) hG 5 rfl dL_law_556 kk) ?_
    refine And.imp_right (fun kk => z_iconst (pc := 558) hG kc_1 dL_law_558 kk) ?_
    refine And.imp_right (fun kk => z_iadd (pc := 559) hG dL_law_559 kk) ?_
    refine And.imp_right (fun kk => z_scr (pc := 560) hG hS 1 (by decide) rfl dL_law_560 kk) ?_
    refine And.imp_right (fun kk => z_aload_n (pc := 561) hG 1 rfl rfl dL_law_561 kk) ?_
    refine And.imp_right (fun kk => z_iload (pc := 562) hG 5 rfl dL_law_562 kk) ?_
    refine And.imp_right (fun kk => z_iconst (pc := 564) hG kc_2 dL_law_564 kk) ?_
    refine And.imp_right (fun kk => z_iadd (pc := 565) hG dL_law_565 kk) ?_
    refine And.imp_right (fun kk => z_scr (pc := 566) hG hS 2 (by decide) rfl dL_law_566 kk) ?_
    refine zbr (c := (a 2) = 0) (fun hc => ?_) (fun hc => ?_) (fun k1 k2 => z_if_eq (pc := 567) (tgt := 574) hG dL_law_567 rfl k1 k2)
    · replace h := zif_t hc h
      refine And.imp_right (fun kk => z_iconst (pc := 574) hG kc_0 dL_law_574 kk) ?_
      replace h := zbind h
      obtain ⟨v2, hv2, h⟩ := h
      replace h := zchk_some h
      obtain ⟨hqv2, h⟩ := h
      refine And.imp_right (fun kk => z_cvI (A' := A0 + (C / 64 - v1.2.2.2.2 / 64)) (B' := B0 + 2 * (C - v1.2.2.2.2)) (nc := 0) (ns := 0) (rest := []) hG [.int (a 1), .int (0 : Int32)] zc_X11 DL_42 (tX11_cover hl0 (a 1) (0 : Int32) v1.2 hv2) zy_X11_cover ⟨w1933, w1934⟩ w1932 dL_law_575 rfl (Nat.le_of_ble_eq_true rfl) (by omega) (by omega) rfl (Nat.le_of_ble_eq_true rfl) rfl kk) ?_
      refine zpc (of_decide_eq_true hqv2) ?_
      refine And.imp_right (fun kk => z_istore (pc := 578) (ls' := [(6, .int v2.1), (5, .int v1.1), (0, .ref 950), (1, .ref 0), (2, .ref 42), (3, .ref 72), (4, .int i)]) hG [0, 1, 2, 3, 4, 5, 6] (by decide) rfl dL_law_578 kk) ?_
      refine And.imp_right (fun kk => z_goto (pc := 580) (tgt := 1967) hG dL_law_580 rfl kk) ?_
      obtain rfl := Option.some.inj h
      refine And.imp_right (fun kk => z_sub (ls' := [(0, .ref 950), (1, .ref 0), (2, .ref 42), (3, .ref 72), (4, .int i)]) [2, 3, 4, 5, 6] rfl kk) ?_
      exact kf
    · replace h := zif_f hc h
      refine And.imp_right (fun kk => z_iconst (pc := 570) hG kc_1 dL_law_570 kk) ?_
      refine And.imp_right (fun kk => z_goto (pc := 571) (tgt := 575) hG dL_law_571 rfl kk) ?_
      replace h := zbind h
      obtain ⟨v3, hv3, h⟩ := h
      replace h := zchk_some h
      obtain ⟨hqv3, h⟩ := h
      refine And.imp_right (fun kk => z_cvI (A' := A0 + (C / 64 - v1.2.2.2.2 / 64)) (B' := B0 + 2 * (C - v1.2.2.2.2)) (nc := 0) (ns := 0) (rest := []) hG [.int (a 1), .int (1 : Int32)] zc_X11 DL_42 (tX11_cover hl0 (a 1) (1 : Int32) v1.2 hv3) zy_X11_cover ⟨w1933, w1934⟩ w1932 dL_law_575 rfl (Nat.le_of_ble_eq_true rfl) (by omega) (by omega) rfl (Nat.le_of_ble_eq_true rfl) rfl kk) ?_
      refine zpc (of_decide_eq_true hqv3) ?_
      refine And.imp_right (fun kk => z_istore (pc := 578) (ls' := [(6, .int v3.1), (5, .int v1.1), (0, .ref 950), (1, .ref 0), (2, .ref 42), (3, .ref 72), (4, .int i)]) hG [0, 1, 2, 3, 4, 5, 6] (by decide) rfl dL_law_578 kk) ?_
      refine And.imp_right (fun kk => z_goto (pc := 580) (tgt := 1967) hG dL_law_580 rfl kk) ?_
      obtain rfl := Option.some.inj h
      refine And.imp_right (fun kk => z_sub (ls' := [(0, .ref 950), (1, .ref 0), (2, .ref 42), (3, .ref 72), (4, .int i)]) [2, 3, 4, 5, 6] rfl kk) ?_
      exact kf
  · replace h := zif_f hc h
    refine And.imp_right (fun kk => z_iconst (pc := 543) hG kc_1 dL_law_543 kk) ?_
    refine And.imp_right (fun kk => z_goto (pc := 544) (tgt := 548) hG dL_law_544 rfl kk) ?_
    refine And.imp_right (fun kk => z_aload_n (pc := 548) hG 3 rfl rfl dL_law_548 kk) ?_
    replace h := zbind h
    obtain ⟨v4, hv4, h⟩ := h
    replace h := zchk_some h
    obtain ⟨hqv4, h⟩ := h
    replace hqv4 := of_decide_eq_true hqv4
    refine And.elim (fun hb kk => ⟨Nat.le_trans hqv4 hb, z_csH (A' := A0 + (C / 64 - v4.2.2.2.2 / 64)) (B' := B0 + 2 * (C - v4.2.2.2.2)) (rest := []) hG hPx [.ref 0, .int (a 1), .int (1 : Int32), .ref 72] (tL_cover hl0 (a 1) (1 : Int32) g hv4) zyH_cover w910 w909 dL_law_549 rfl (Nat.le_of_ble_eq_true rfl) (by have hb : v4.2.2.2.2 ≤ C := hb; omega) (by have hb : v4.2.2.2.2 ≤ C := hb; omega) rfl (Nat.le_of_ble_eq_true rfl) rfl kk⟩) ?_
    refine And.imp_right (fun kk => z_istore (pc := 552) (ls' := [(5, .int v4.1), (0, .ref 950), (1, .ref 0), (2, .ref 42), (3, .ref 72), (4, .int i)]) hG [0, 1, 2, 3, 4, 5] (by decide) rfl dL_law_552 kk) ?_
    refine And.imp_right (fun kk => z_aload_n (pc := 554) hG 3 rfl rfl dL_law_554 kk) ?_
    refine And.imp_right (fun kk => z_aload_n (pc := 555) hG 1 rfl rfl dL_law_555 kk) ?_
    refine And.imp_right (fun kk => z_iload (pc := 556) hG 5 rfl dL_law_556 kk) ?_
    refine And.imp_right (fun kk => z_iconst (pc := 558) hG kc_1 dL_law_558 kk) ?_
    refine And.imp_right (fun kk => z_iadd (pc := 559) hG dL_law_559 kk) ?_
    refine And.imp_right (fun kk => z_scr (pc := 560) hG hS 1 (by decide) rfl dL_law_560 kk) ?_
    refine And.imp_right (fun kk => z_aload_n (pc := 561) hG 1 rfl rfl dL_law_561 kk) ?_
    refine And.imp_right (fun kk => z_iload (pc := 562) hG 5 rfl dL_law_562 kk) ?_
    refine And.imp_right (fun kk => z_iconst (pc := 564) hG kc_2 dL_law_564 kk) ?_
    refine And.imp_right (fun kk => z_iadd (pc := 565) hG dL_law_565 kk) ?_
    refine And.imp_right (fun kk => z_scr (pc := 566) hG hS 2 (by decide) rfl dL_law_566 kk) ?_
    refine zbr (c := (a 2) = 0) (fun hc => ?_) (fun hc => ?_) (fun k1 k2 => z_if_eq (pc := 567) (tgt := 574) hG dL_law_567 rfl k1 k2)
    · replace h := zif_t hc h
      refine And.imp_right (fun kk => z_iconst (pc := 574) hG kc_0 dL_law_574 kk) ?_
      replace h := zbind h
      obtain ⟨v5, hv5, h⟩ := h
      replace h := zchk_some h
      obtain ⟨hqv5, h⟩ := h
      refine And.imp_right (fun kk => z_cvI (A' := A0 + (C / 64 - v4.2.2.2.2 / 64)) (B' := B0 + 2 * (C - v4.2.2.2.2)) (nc := 0) (ns := 0) (rest := []) hG [.int (a 1), .int (0 : Int32)] zc_X11 DL_42 (tX11_cover hl0 (a 1) (0 : Int32) v4.2 hv5) zy_X11_cover ⟨w1933, w1934⟩ w1932 dL_law_575 rfl (Nat.le_of_ble_eq_true rfl) (by omega) (by omega) rfl (Nat.le_of_ble_eq_true rfl) rfl kk) ?_
      refine zpc (of_decide_eq_true hqv5) ?_
      refine And.imp_right (fun kk => z_istore (pc := 578) (ls' := [(6, .int v5.1), (5, .int v4.1), (0, .ref 950), (1, .ref 0), (2, .ref 42), (3, .ref 72), (4, .int i)]) hG [0, 1, 2, 3, 4, 5, 6] (by decide) rfl dL_law_578 kk) ?_
      refine And.imp_right (fun kk => z_goto (pc := 580) (tgt := 1967) hG dL_law_580 rfl kk) ?_
      obtain rfl := Option.some.inj h
      refine And.imp_right (fun kk => z_sub (ls' := [(0, .ref 950), (1, .ref 0), (2, .ref 42), (3, .ref 72), (4, .int i)]) [2, 3, 4, 5, 6] rfl kk) ?_
      exact kf
    · replace h := zif_f hc h
      refine And.imp_right (fun kk => z_iconst (pc := 570) hG kc_1 dL_law_570 kk) ?_
      refine And.imp_right (fun kk => z_goto (pc := 571) (tgt := 575) hG dL_law_571 rfl kk) ?_
      replace h := zbind h
      obtain ⟨v6, hv6, h⟩ := h
      replace h := zchk_some h
      obtain ⟨hqv6, h⟩ := h
      refine And.imp_right (fun kk => z_cvI (A' := A0 + (C / 64 - v4.2.2.2.2 / 64)) (B' := B0 + 2 * (C - v4.2.2.2.2)) (nc := 0) (ns := 0) (rest := []) hG [.int (a 1), .int (1 : Int32)] zc_X11 DL_42 (tX11_cover hl0 (a 1) (1 : Int32) v4.2 hv6) zy_X11_cover ⟨w1933, w1934⟩ w1932 dL_law_575 rfl (Nat.le_of_ble_eq_true rfl) (by omega) (by omega) rfl (Nat.le_of_ble_eq_true rfl) rfl kk) ?_
      refine zpc (of_decide_eq_true hqv6) ?_
      refine And.imp_right (fun kk => z_istore (pc := 578) (ls' := [(6, .int v6.1), (5, .int v4.1), (0, .ref 950), (1, .ref 0), (2, .ref 42), (3, .ref 72), (4, .int i)]) hG [0, 1, 2, 3, 4, 5, 6] (by decide) rfl dL_law_578 kk) ?_
      refine And.imp_right (fun kk => z_goto (pc := 580) (tgt := 1967) hG dL_law_580 rfl kk) ?_
      obtain rfl := Option.some.inj h
      refine And.imp_right (fun kk => z_sub (ls' := [(0, .ref 950), (1, .ref 0), (2, .ref 42), (3, .ref 72), (4, .int i)]) [2, 3, 4, 5, 6] rfl kk) ?_
      exact kf
noncomputable def nS_9 (a : Nat → Int32) (g : zS) : Option zS :=
  (nL_idle (a 1) g).bind fun v1 => zchk (decide (v1.2.2.2.2 = g.2.2.2)) ((nX11_idle (a 1) v1.2).bind fun v2 => zchk (decide (v2.2.2.2.2 = v1.2.2.2.2)) ((nX11_thrown v2.2).bind fun v3 => if v3 = v1.1 then (if v1.1 = 0 then (if v2.1 = 0 then (if (lg_cmp (v2.2.2.1 72 (0 : Int32).toNatClampNeg) (0 : Int64)) = 0 then (some v2.2) else (none)) else (if (lg_cmp (v2.2.2.1 72 (0 : Int32).toNatClampNeg) (1 : Int64)) = 0 then (some v2.2) else (none))) else (some v2.2)) else (none)))
noncomputable def nU_9 (a : Nat → Int32) (g : zS) : Option zS :=
  (nL_idle (a 1) g).bind fun v1 => zchk (decide (v1.2.2.2.2 = g.2.2.2)) ((nX11_idle (a 1) v1.2).bind fun v2 => zchk (decide (v2.2.2.2.2 = v1.2.2.2.2)) (some v2.2))
set_option maxHeartbeats 1000000 in
theorem tS_9 {x : zXx} {i : Int32} {a : Nat → Int32} (hl0 : (zl0 x).flags = flags0) (hG : zG x cL_law 7 RL ret) (hPx : zPx x.2.2.2.2.1) (hS : zScr x i a) {A0 B0 C : Nat} (g : zS) {r : zS} (h : nU_9 a g = some r) (kf : zgr r C ∧ zK x 66 1967 [(0, .ref 950), (1, .ref 0), (2, .ref 42), (3, .ref 72), (4, .int i)] [] zD r (A0 + (C / 64 - r.2.2.2 / 64)) (B0 + 2 * (C - r.2.2.2))) : zgr g C ∧ zK x 66 583 [(0, .ref 950), (1, .ref 0), (2, .ref 42), (3, .ref 72), (4, .int i)] [] zD g (A0 + 1 + (C / 64 - g.2.2.2 / 64)) (B0 + 6 + 2 * (C - g.2.2.2)) := by
  unfold nU_9 at h
  refine And.imp_right (fun kk => z_aload_n (pc := 583) hG 1 rfl rfl dL_law_583 kk) ?_
  refine And.imp_right (fun kk => z_aload_n (pc := 584) hG 0 rfl rfl dL_law_584 kk) ?_
  refine And.imp_right (fun kk => z_iload (pc := 585) hG 4 rfl dL_law_585 kk) ?_
  refine And.imp_right (fun kk => z_iconst (pc := 587) hG kc_1 dL_law_587 kk) ?_
  refine And.imp_right (fun kk => z_iadd (pc := 588) hG dL_law_588 kk) ?_
  refine And.imp_right (fun kk => z_scr (pc := 589) hG hS 1 (by decide) rfl dL_law_589 kk) ?_
  refine And.imp_right (fun kk => z_aload_n (pc := 590) hG 3 rfl rfl dL_law_590 kk) ?_
  replace h := zbind h
  obtain ⟨v1, hv1, h⟩ := h
  replace h := zchk_some h
  obtain ⟨hqv1, h⟩ := h
  refine And.imp_right (fun kk => z_csH (A' := A0 + (C / 64 - g.2.2.2 / 64)) (B' := B0 + 2 * (C - g.2.2.2)) (rest := []) hG hPx [.ref 0, .int (a 1), .ref 72] (tL_idle hl0 (a 1) g hv1) zyH_idle w940 w939 dL_law_591 rfl (Nat.le_of_ble_eq_true rfl) (by omega) (by omega) rfl (Nat.le_of_ble_eq_true rfl) rfl kk) ?_
  refine zpc (of_decide_eq_true hqv1) ?_
  refine And.imp_right (fun kk => z_istore (pc := 594) (ls' := [(5, .int v1.1), (0, .ref 950), (1, .ref 0), (2, .ref 42), (3, .ref 72), (4, .int i)]) hG [0, 1, 2, 3, 4, 5] (by decide) rfl dL_law_594 kk) ?_
  refine And.imp_right (fun kk => z_aload_n (pc := 596) hG 3 rfl rfl dL_law_596 kk) ?_
  refine And.imp_right (fun kk => z_aload_n (pc := 597) hG 1 rfl rfl dL_law_597 kk) ?_
  refine And.imp_right (fun kk => z_iload (pc := 598) hG 5 rfl dL_law_598 kk) ?_
  refine And.imp_right (fun kk => z_iconst (pc := 600) hG kc_1 dL_law_600 kk) ?_
  refine And.imp_right (fun kk => z_iadd (pc := 601) hG dL_law_601 kk) ?_
  refine And.imp_right (fun kk => z_scr (pc := 602) hG hS 1 (by decide) rfl dL_law_602 kk) ?_
  replace h := zbind h
  obtain ⟨v2, hv2, h⟩ := h
  replace h := zchk_some h
  obtain ⟨hqv2, h⟩ := h
  refine And.imp_right (fun kk => z_cvI (A' := A0 + (C / 64 - v1.2.2.2.2 / 64)) (B' := B0 + 2 * (C - v1.2.2.2.2)) (nc := 0) (ns := 0) (rest := []) hG [.int (a 1)] zc_X11 DL_42 (tX11_idle hl0 (a 1) v1.2 hv2) zy_X11_idle ⟨w1768, w1769⟩ w1767 dL_law_603 rfl (Nat.le_of_ble_eq_true rfl) (by omega) (by omega) rfl (Nat.le_of_ble_eq_true rfl) rfl kk) ?_
  refine zpc (of_decide_eq_true hqv2) ?_
  refine And.imp_right (fun kk => z_istore (pc := 606) (ls' := [(6, .int v2.1), (5, .int v1.1), (0, .ref 950), (1, .ref 0), (2, .ref 42), (3, .ref 72), (4, .int i)]) hG [0, 1, 2, 3, 4, 5, 6] (by decide) rfl dL_law_606 kk) ?_
  refine And.imp_right (fun kk => z_goto (pc := 608) (tgt := 1967) hG dL_law_608 rfl kk) ?_
  obtain rfl := Option.some.inj h
  refine And.imp_right (fun kk => z_sub (ls' := [(0, .ref 950), (1, .ref 0), (2, .ref 42), (3, .ref 72), (4, .int i)]) [2, 3, 4, 5, 6] rfl kk) ?_
  exact kf
noncomputable def nS_10 (a : Nat → Int32) (g : zS) : Option zS :=
  (nX10_boxes g).bind fun v1 => zchk (decide (g.2.2.2 ≤ v1.2.2.2.2)) ((nX11_boxes v1.2).bind fun v2 => zchk (decide (v2.2.2.2.2 = v1.2.2.2.2)) (if v1.1 = v2.1 then (some v2.2) else (none)))
noncomputable def nU_10 (a : Nat → Int32) (g : zS) : Option zS :=
  (nX10_boxes g).bind fun v1 => zchk (decide (g.2.2.2 ≤ v1.2.2.2.2)) ((nX11_boxes v1.2).bind fun v2 => zchk (decide (v2.2.2.2.2 = v1.2.2.2.2)) (some v2.2))
set_option maxHeartbeats 1000000 in
theorem tS_10 {x : zXx} {i : Int32} {a : Nat → Int32} (hl0 : (zl0 x).flags = flags0) (hG : zG x cL_law 7 RL ret) (hPx : zPx x.2.2.2.2.1) (hS : zScr x i a) {A0 B0 C : Nat} (g : zS) {r : zS} (h : nU_10 a g = some r) (kf : zgr r C ∧ zK x 66 1967 [(0, .ref 950), (1, .ref 0), (2, .ref 42), (3, .ref 72), (4, .int i)] [] zD r (A0 + (C / 64 - r.2.2.2 / 64)) (B0 + 2 * (C - r.2.2.2))) : zgr g C ∧ zK x 66 611 [(0, .ref 950), (1, .ref 0), (2, .ref 42), (3, .ref 72), (4, .int i)] [] zD g (A0 + 0 + (C / 64 - g.2.2.2 / 64)) (B0 + 0 + 2 * (C - g.2.2.2)) := by
  unfold nU_10 at h
  refine And.imp_right (fun kk => z_aload_n (pc := 611) hG 1 rfl rfl dL_law_611 kk) ?_
  replace h := zbind h
  obtain ⟨v1, hv1, h⟩ := h
  replace h := zchk_some h
  obtain ⟨hqv1, h⟩ := h
  replace hqv1 := of_decide_eq_true hqv1
  refine And.elim (fun hb kk => ⟨Nat.le_trans hqv1 hb, z_cvI (A' := A0 + (C / 64 - v1.2.2.2.2 / 64)) (B' := B0 + 2 * (C - v1.2.2.2.2)) (nc := 0 + (v1.2.2.2.2 / 64 - g.2.2.2 / 64)) (ns := 0 + 2 * (v1.2.2.2.2 - g.2.2.2)) (rest := []) hG [] zc_X10 DL_0 (tX10_boxes hl0  g hv1) zy_X10_boxes ⟨w340, w341⟩ w339 dL_law_612 rfl (Nat.le_of_ble_eq_true rfl) (by have hb : v1.2.2.2.2 ≤ C := hb; omega) (by have hb : v1.2.2.2.2 ≤ C := hb; omega) rfl (Nat.le_of_ble_eq_true rfl) rfl kk⟩) ?_
  refine And.imp_right (fun kk => z_pop (pc := 615) hG rfl dL_law_615 kk) ?_
  refine And.imp_right (fun kk => z_aload_n (pc := 616) hG 2 rfl rfl dL_law_616 kk) ?_
  replace h := zbind h
  obtain ⟨v2, hv2, h⟩ := h
  replace h := zchk_some h
  obtain ⟨hqv2, h⟩ := h
  refine And.imp_right (fun kk => z_cvI (A' := A0 + (C / 64 - v1.2.2.2.2 / 64)) (B' := B0 + 2 * (C - v1.2.2.2.2)) (nc := 0) (ns := 0) (rest := []) hG [] zc_X11 DL_42 (tX11_boxes hl0  v1.2 hv2) zy_X11_boxes ⟨w1772, w1773⟩ w1771 dL_law_617 rfl (Nat.le_of_ble_eq_true rfl) (by omega) (by omega) rfl (Nat.le_of_ble_eq_true rfl) rfl kk) ?_
  refine zpc (of_decide_eq_true hqv2) ?_
  refine And.imp_right (fun kk => z_pop (pc := 620) hG rfl dL_law_620 kk) ?_
  refine And.imp_right (fun kk => z_goto (pc := 621) (tgt := 1967) hG dL_law_621 rfl kk) ?_
  obtain rfl := Option.some.inj h
  exact kf
noncomputable def nS_11 (a : Nat → Int32) (g : zS) : Option zS :=
  (nL_box (a 1) (a 2) g).bind fun v1 => zchk (decide (g.2.2.2 ≤ v1.2.2.2.2)) ((nX11_box (a 1) (a 2) v1.2).bind fun v2 => zchk (decide (v2.2.2.2.2 = v1.2.2.2.2)) ((nX11_thrown v2.2).bind fun v3 => if v3 = v1.1 then (if v1.1 = 0 then (if (lg_cmp (v2.2.2.1 72 (0 : Int32).toNatClampNeg) v2.1.toInt64) = 0 then (some v2.2) else (none)) else (some v2.2)) else (none)))
noncomputable def nU_11 (a : Nat → Int32) (g : zS) : Option zS :=
  (nL_box (a 1) (a 2) g).bind fun v1 => zchk (decide (g.2.2.2 ≤ v1.2.2.2.2)) ((nX11_box (a 1) (a 2) v1.2).bind fun v2 => zchk (decide (v2.2.2.2.2 = v1.2.2.2.2)) (some v2.2))
set_option maxHeartbeats 1000000 in
theorem tS_11 {x : zXx} {i : Int32} {a : Nat → Int32} (hl0 : (zl0 x).flags = flags0) (hG : zG x cL_law 7 RL ret) (hPx : zPx x.2.2.2.2.1) (hS : zScr x i a) {A0 B0 C : Nat} (g : zS) {r : zS} (h : nU_11 a g = some r) (kf : zgr r C ∧ zK x 66 1967 [(0, .ref 950), (1, .ref 0), (2, .ref 42), (3, .ref 72), (4, .int i)] [] zD r (A0 + (C / 64 - r.2.2.2 / 64)) (B0 + 2 * (C - r.2.2.2))) : zgr g C ∧ zK x 66 624 [(0, .ref 950), (1, .ref 0), (2, .ref 42), (3, .ref 72), (4, .int i)] [] zD g (A0 + 2 + (C / 64 - g.2.2.2 / 64)) (B0 + 12 + 2 * (C - g.2.2.2)) := by
  unfold nU_11 at h
  refine And.imp_right (fun kk => z_aload_n (pc := 624) hG 1 rfl rfl dL_law_624 kk) ?_
  refine And.imp_right (fun kk => z_aload_n (pc := 625) hG 0 rfl rfl dL_law_625 kk) ?_
  refine And.imp_right (fun kk => z_iload (pc := 626) hG 4 rfl dL_law_626 kk) ?_
  refine And.imp_right (fun kk => z_iconst (pc := 628) hG kc_1 dL_law_628 kk) ?_
  refine And.imp_right (fun kk => z_iadd (pc := 629) hG dL_law_629 kk) ?_
  refine And.imp_right (fun kk => z_scr (pc := 630) hG hS 1 (by decide) rfl dL_law_630 kk) ?_
  refine And.imp_right (fun kk => z_aload_n (pc := 631) hG 0 rfl rfl dL_law_631 kk) ?_
  refine And.imp_right (fun kk => z_iload (pc := 632) hG 4 rfl dL_law_632 kk) ?_
  refine And.imp_right (fun kk => z_iconst (pc := 634) hG kc_2 dL_law_634 kk) ?_
  refine And.imp_right (fun kk => z_iadd (pc := 635) hG dL_law_635 kk) ?_
  refine And.imp_right (fun kk => z_scr (pc := 636) hG hS 2 (by decide) rfl dL_law_636 kk) ?_
  refine And.imp_right (fun kk => z_aload_n (pc := 637) hG 3 rfl rfl dL_law_637 kk) ?_
  replace h := zbind h
  obtain ⟨v1, hv1, h⟩ := h
  replace h := zchk_some h
  obtain ⟨hqv1, h⟩ := h
  replace hqv1 := of_decide_eq_true hqv1
  refine And.elim (fun hb kk => ⟨Nat.le_trans hqv1 hb, z_csH (A' := A0 + (C / 64 - v1.2.2.2.2 / 64)) (B' := B0 + 2 * (C - v1.2.2.2.2)) (rest := []) hG hPx [.ref 0, .int (a 1), .int (a 2), .ref 72] (tL_box hl0 (a 1) (a 2) g hv1) zyH_box w951 w950 dL_law_638 rfl (Nat.le_of_ble_eq_true rfl) (by have hb : v1.2.2.2.2 ≤ C := hb; omega) (by have hb : v1.2.2.2.2 ≤ C := hb; omega) rfl (Nat.le_of_ble_eq_true rfl) rfl kk⟩) ?_
  refine And.imp_right (fun kk => z_istore (pc := 641) (ls' := [(5, .int v1.1), (0, .ref 950), (1, .ref 0), (2, .ref 42), (3, .ref 72), (4, .int i)]) hG [0, 1, 2, 3, 4, 5] (by decide) rfl dL_law_641 kk) ?_
  refine And.imp_right (fun kk => z_aload_n (pc := 643) hG 3 rfl rfl dL_law_643 kk) ?_
  refine And.imp_right (fun kk => z_aload_n (pc := 644) hG 1 rfl rfl dL_law_644 kk) ?_
  refine And.imp_right (fun kk => z_iload (pc := 645) hG 5 rfl dL_law_645 kk) ?_
  refine And.imp_right (fun kk => z_iconst (pc := 647) hG kc_1 dL_law_647 kk) ?_
  refine And.imp_right (fun kk => z_iadd (pc := 648) hG dL_law_648 kk) ?_
  refine And.imp_right (fun kk => z_scr (pc := 649) hG hS 1 (by decide) rfl dL_law_649 kk) ?_
  refine And.imp_right (fun kk => z_aload_n (pc := 650) hG 1 rfl rfl dL_law_650 kk) ?_
  refine And.imp_right (fun kk => z_iload (pc := 651) hG 5 rfl dL_law_651 kk) ?_
  refine And.imp_right (fun kk => z_iconst (pc := 653) hG kc_2 dL_law_653 kk) ?_
  refine And.imp_right (fun kk => z_iadd (pc := 654) hG dL_law_654 kk) ?_
  refine And.imp_right (fun kk => z_scr (pc := 655) hG hS 2 (by decide) rfl dL_law_655 kk) ?_
  replace h := zbind h
  obtain ⟨v2, hv2, h⟩ := h
  replace h := zchk_some h
  obtain ⟨hqv2, h⟩ := h
  refine And.imp_right (fun kk => z_cvI (A' := A0 + (C / 64 - v1.2.2.2.2 / 64)) (B' := B0 + 2 * (C - v1.2.2.2.2)) (nc := 0) (ns := 0) (rest := []) hG [.int (a 1), .int (a 2)] zc_X11 DL_42 (tX11_box hl0 (a 1) (a 2) v1.2 hv2) zy_X11_box ⟨w1776, w1777⟩ w1775 dL_law_656 rfl (Nat.le_of_ble_eq_true rfl) (by omega) (by omega) rfl (Nat.le_of_ble_eq_true rfl) rfl kk) ?_
  refine zpc (of_decide_eq_true hqv2) ?_
  refine And.imp_right (fun kk => z_istore (pc := 659) (ls' := [(6, .int v2.1), (5, .int v1.1), (0, .ref 950), (1, .ref 0), (2, .ref 42), (3, .ref 72), (4, .int i)]) hG [0, 1, 2, 3, 4, 5, 6] (by decide) rfl dL_law_659 kk) ?_
  refine And.imp_right (fun kk => z_goto (pc := 661) (tgt := 1967) hG dL_law_661 rfl kk) ?_
  obtain rfl := Option.some.inj h
  refine And.imp_right (fun kk => z_sub (ls' := [(0, .ref 950), (1, .ref 0), (2, .ref 42), (3, .ref 72), (4, .int i)]) [2, 3, 4, 5, 6] rfl kk) ?_
  exact kf
noncomputable def nS_12 (a : Nat → Int32) (g : zS) : Option zS :=
  (nX10_passing g).bind fun v1 => (nX11_passing g).bind fun v2 => zchk (decide (v2.2.2.2.2 = g.2.2.2)) (if v1 = v2.1 then (some v2.2) else (none))
noncomputable def nU_12 (a : Nat → Int32) (g : zS) : Option zS :=
  (nX10_passing g).bind fun v1 => (nX11_passing g).bind fun v2 => zchk (decide (v2.2.2.2.2 = g.2.2.2)) (some v2.2)
set_option maxHeartbeats 1000000 in
theorem tS_12 {x : zXx} {i : Int32} {a : Nat → Int32} (hl0 : (zl0 x).flags = flags0) (hG : zG x cL_law 7 RL ret) (hPx : zPx x.2.2.2.2.1) (hS : zScr x i a) {A0 B0 C : Nat} (g : zS) {r : zS} (h : nU_12 a g = some r) (kf : zgr r C ∧ zK x 66 1967 [(0, .ref 950), (1, .ref 0), (2, .ref 42), (3, .ref 72), (4, .int i)] [] zD r (A0 + (C / 64 - r.2.2.2 / 64)) (B0 + 2 * (C - r.2.2.2))) : zgr g C ∧ zK x 66 664 [(0, .ref 950), (1, .ref 0), (2, .ref 42), (3, .ref 72), (4, .int i)] [] zD g (A0 + 0 + (C / 64 - g.2.2.2 / 64)) (B0 + 0 + 2 * (C - g.2.2.2)) := by
  unfold nU_12 at h
  refine And.imp_right (fun kk => z_aload_n (pc := 664) hG 1 rfl rfl dL_law_664 kk) ?_
  replace h := zbind h
  obtain ⟨v1, hv1, h⟩ := h
  refine And.imp_right (fun kk => z_cvI (A' := A0 + (C / 64 - g.2.2.2 / 64)) (B' := B0 + 2 * (C - g.2.2.2)) (nc := 0) (ns := 0) (rest := []) hG [] zc_X10 DL_0 (tX10_passing hl0  g hv1) zy_X10_passing ⟨w412, w413⟩ w411 dL_law_665 rfl (Nat.le_of_ble_eq_true rfl) (by omega) (by omega) rfl (Nat.le_of_ble_eq_true rfl) rfl kk) ?_
  refine And.imp_right (fun kk => z_pop (pc := 668) hG rfl dL_law_668 kk) ?_
  refine And.imp_right (fun kk => z_aload_n (pc := 669) hG 2 rfl rfl dL_law_669 kk) ?_
  replace h := zbind h
  obtain ⟨v2, hv2, h⟩ := h
  replace h := zchk_some h
  obtain ⟨hqv2, h⟩ := h
  refine And.imp_right (fun kk => z_cvI (A' := A0 + (C / 64 - g.2.2.2 / 64)) (B' := B0 + 2 * (C - g.2.2.2)) (nc := 0) (ns := 0) (rest := []) hG [] zc_X11 DL_42 (tX11_passing hl0  g hv2) zy_X11_passing ⟨w1784, w1785⟩ w1783 dL_law_670 rfl (Nat.le_of_ble_eq_true rfl) (by omega) (by omega) rfl (Nat.le_of_ble_eq_true rfl) rfl kk) ?_
  refine zpc (of_decide_eq_true hqv2) ?_
  refine And.imp_right (fun kk => z_pop (pc := 673) hG rfl dL_law_673 kk) ?_
  refine And.imp_right (fun kk => z_goto (pc := 674) (tgt := 1967) hG dL_law_674 rfl kk) ?_
  obtain rfl := Option.some.inj h
  exact kf
noncomputable def nS_13 (a : Nat → Int32) (g : zS) : Option zS :=
  (nL_tried (a 1) g).bind fun v1 => zchk (decide (v1.2.2.2.2 = g.2.2.2)) ((nX11_tried (a 1) v1.2).bind fun v2 => zchk (decide (v2.2.2.2.2 = v1.2.2.2.2)) ((nX11_thrown v2.2).bind fun v3 => if v3 = v1.1 then (if v1.1 = 0 then (if (lg_cmp (v2.2.2.1 72 (0 : Int32).toNatClampNeg) v2.1.toInt64) = 0 then (some v2.2) else (none)) else (some v2.2)) else (none)))
noncomputable def nU_13 (a : Nat → Int32) (g : zS) : Option zS :=
  (nL_tried (a 1) g).bind fun v1 => zchk (decide (v1.2.2.2.2 = g.2.2.2)) ((nX11_tried (a 1) v1.2).bind fun v2 => zchk (decide (v2.2.2.2.2 = v1.2.2.2.2)) (some v2.2))
set_option maxHeartbeats 1000000 in
theorem tS_13 {x : zXx} {i : Int32} {a : Nat → Int32} (hl0 : (zl0 x).flags = flags0) (hG : zG x cL_law 7 RL ret) (hPx : zPx x.2.2.2.2.1) (hS : zScr x i a) {A0 B0 C : Nat} (g : zS) {r : zS} (h : nU_13 a g = some r) (kf : zgr r C ∧ zK x 66 1967 [(0, .ref 950), (1, .ref 0), (2, .ref 42), (3, .ref 72), (4, .int i)] [] zD r (A0 + (C / 64 - r.2.2.2 / 64)) (B0 + 2 * (C - r.2.2.2))) : zgr g C ∧ zK x 66 677 [(0, .ref 950), (1, .ref 0), (2, .ref 42), (3, .ref 72), (4, .int i)] [] zD g (A0 + 1 + (C / 64 - g.2.2.2 / 64)) (B0 + 6 + 2 * (C - g.2.2.2)) := by
  unfold nU_13 at h
  refine And.imp_right (fun kk => z_aload_n (pc := 677) hG 1 rfl rfl dL_law_677 kk) ?_
  refine And.imp_right (fun kk => z_aload_n (pc := 678) hG 0 rfl rfl dL_law_678 kk) ?_
  refine And.imp_right (fun kk => z_iload (pc := 679) hG 4 rfl dL_law_679 kk) ?_
  refine And.imp_right (fun kk => z_iconst (pc := 681) hG kc_1 dL_law_681 kk) ?_
  refine And.imp_right (fun kk => z_iadd (pc := 682) hG dL_law_682 kk) ?_
  refine And.imp_right (fun kk => z_scr (pc := 683) hG hS 1 (by decide) rfl dL_law_683 kk) ?_
  refine And.imp_right (fun kk => z_aload_n (pc := 684) hG 3 rfl rfl dL_law_684 kk) ?_
  replace h := zbind h
  obtain ⟨v1, hv1, h⟩ := h
  replace h := zchk_some h
  obtain ⟨hqv1, h⟩ := h
  refine And.imp_right (fun kk => z_csH (A' := A0 + (C / 64 - g.2.2.2 / 64)) (B' := B0 + 2 * (C - g.2.2.2)) (rest := []) hG hPx [.ref 0, .int (a 1), .ref 72] (tL_tried hl0 (a 1) g hv1) zyH_tried w964 w963 dL_law_685 rfl (Nat.le_of_ble_eq_true rfl) (by omega) (by omega) rfl (Nat.le_of_ble_eq_true rfl) rfl kk) ?_
  refine zpc (of_decide_eq_true hqv1) ?_
  refine And.imp_right (fun kk => z_istore (pc := 688) (ls' := [(5, .int v1.1), (0, .ref 950), (1, .ref 0), (2, .ref 42), (3, .ref 72), (4, .int i)]) hG [0, 1, 2, 3, 4, 5] (by decide) rfl dL_law_688 kk) ?_
  refine And.imp_right (fun kk => z_aload_n (pc := 690) hG 3 rfl rfl dL_law_690 kk) ?_
  refine And.imp_right (fun kk => z_aload_n (pc := 691) hG 1 rfl rfl dL_law_691 kk) ?_
  refine And.imp_right (fun kk => z_iload (pc := 692) hG 5 rfl dL_law_692 kk) ?_
  refine And.imp_right (fun kk => z_iconst (pc := 694) hG kc_1 dL_law_694 kk) ?_
  refine And.imp_right (fun kk => z_iadd (pc := 695) hG dL_law_695 kk) ?_
  refine And.imp_right (fun kk => z_scr (pc := 696) hG hS 1 (by decide) rfl dL_law_696 kk) ?_
  replace h := zbind h
  obtain ⟨v2, hv2, h⟩ := h
  replace h := zchk_some h
  obtain ⟨hqv2, h⟩ := h
  refine And.imp_right (fun kk => z_cvI (A' := A0 + (C / 64 - v1.2.2.2.2 / 64)) (B' := B0 + 2 * (C - v1.2.2.2.2)) (nc := 0) (ns := 0) (rest := []) hG [.int (a 1)] zc_X11 DL_42 (tX11_tried hl0 (a 1) v1.2 hv2) zy_X11_tried ⟨w1792, w1793⟩ w1791 dL_law_697 rfl (Nat.le_of_ble_eq_true rfl) (by omega) (by omega) rfl (Nat.le_of_ble_eq_true rfl) rfl kk) ?_
  refine zpc (of_decide_eq_true hqv2) ?_
  refine And.imp_right (fun kk => z_istore (pc := 700) (ls' := [(6, .int v2.1), (5, .int v1.1), (0, .ref 950), (1, .ref 0), (2, .ref 42), (3, .ref 72), (4, .int i)]) hG [0, 1, 2, 3, 4, 5, 6] (by decide) rfl dL_law_700 kk) ?_
  refine And.imp_right (fun kk => z_goto (pc := 702) (tgt := 1967) hG dL_law_702 rfl kk) ?_
  obtain rfl := Option.some.inj h
  refine And.imp_right (fun kk => z_sub (ls' := [(0, .ref 950), (1, .ref 0), (2, .ref 42), (3, .ref 72), (4, .int i)]) [2, 3, 4, 5, 6] rfl kk) ?_
  exact kf
noncomputable def nS_14 (a : Nat → Int32) (g : zS) : Option zS :=
  (nL_answer (a 1) (a 2) g).bind fun v1 => zchk (decide (v1.2.2.2.2 = g.2.2.2)) ((nX11_answer (a 1) (a 2) v1.2).bind fun v2 => zchk (decide (v2.2.2.2.2 = v1.2.2.2.2)) ((nX11_thrown v2.2).bind fun v3 => if v3 = v1.1 then (if v1.1 = 0 then (if (lg_cmp (v2.2.2.1 72 (0 : Int32).toNatClampNeg) v2.1.toInt64) = 0 then (some v2.2) else (none)) else (some v2.2)) else (none)))
noncomputable def nU_14 (a : Nat → Int32) (g : zS) : Option zS :=
  (nL_answer (a 1) (a 2) g).bind fun v1 => zchk (decide (v1.2.2.2.2 = g.2.2.2)) ((nX11_answer (a 1) (a 2) v1.2).bind fun v2 => zchk (decide (v2.2.2.2.2 = v1.2.2.2.2)) (some v2.2))
set_option maxHeartbeats 1000000 in
theorem tS_14 {x : zXx} {i : Int32} {a : Nat → Int32} (hl0 : (zl0 x).flags = flags0) (hG : zG x cL_law 7 RL ret) (hPx : zPx x.2.2.2.2.1) (hS : zScr x i a) {A0 B0 C : Nat} (g : zS) {r : zS} (h : nU_14 a g = some r) (kf : zgr r C ∧ zK x 66 1967 [(0, .ref 950), (1, .ref 0), (2, .ref 42), (3, .ref 72), (4, .int i)] [] zD r (A0 + (C / 64 - r.2.2.2 / 64)) (B0 + 2 * (C - r.2.2.2))) : zgr g C ∧ zK x 66 705 [(0, .ref 950), (1, .ref 0), (2, .ref 42), (3, .ref 72), (4, .int i)] [] zD g (A0 + 2 + (C / 64 - g.2.2.2 / 64)) (B0 + 12 + 2 * (C - g.2.2.2)) := by
  unfold nU_14 at h
  refine And.imp_right (fun kk => z_aload_n (pc := 705) hG 1 rfl rfl dL_law_705 kk) ?_
  refine And.imp_right (fun kk => z_aload_n (pc := 706) hG 0 rfl rfl dL_law_706 kk) ?_
  refine And.imp_right (fun kk => z_iload (pc := 707) hG 4 rfl dL_law_707 kk) ?_
  refine And.imp_right (fun kk => z_iconst (pc := 709) hG kc_1 dL_law_709 kk) ?_
  refine And.imp_right (fun kk => z_iadd (pc := 710) hG dL_law_710 kk) ?_
  refine And.imp_right (fun kk => z_scr (pc := 711) hG hS 1 (by decide) rfl dL_law_711 kk) ?_
  refine And.imp_right (fun kk => z_aload_n (pc := 712) hG 0 rfl rfl dL_law_712 kk) ?_
  refine And.imp_right (fun kk => z_iload (pc := 713) hG 4 rfl dL_law_713 kk) ?_
  refine And.imp_right (fun kk => z_iconst (pc := 715) hG kc_2 dL_law_715 kk) ?_
  refine And.imp_right (fun kk => z_iadd (pc := 716) hG dL_law_716 kk) ?_
  refine And.imp_right (fun kk => z_scr (pc := 717) hG hS 2 (by decide) rfl dL_law_717 kk) ?_
  refine And.imp_right (fun kk => z_aload_n (pc := 718) hG 3 rfl rfl dL_law_718 kk) ?_
  replace h := zbind h
  obtain ⟨v1, hv1, h⟩ := h
  replace h := zchk_some h
  obtain ⟨hqv1, h⟩ := h
  refine And.imp_right (fun kk => z_csH (A' := A0 + (C / 64 - g.2.2.2 / 64)) (B' := B0 + 2 * (C - g.2.2.2)) (rest := []) hG hPx [.ref 0, .int (a 1), .int (a 2), .ref 72] (tL_answer hl0 (a 1) (a 2) g hv1) zyH_answer w981 w980 dL_law_719 rfl (Nat.le_of_ble_eq_true rfl) (by omega) (by omega) rfl (Nat.le_of_ble_eq_true rfl) rfl kk) ?_
  refine zpc (of_decide_eq_true hqv1) ?_
  refine And.imp_right (fun kk => z_istore (pc := 722) (ls' := [(5, .int v1.1), (0, .ref 950), (1, .ref 0), (2, .ref 42), (3, .ref 72), (4, .int i)]) hG [0, 1, 2, 3, 4, 5] (by decide) rfl dL_law_722 kk) ?_
  refine And.imp_right (fun kk => z_aload_n (pc := 724) hG 3 rfl rfl dL_law_724 kk) ?_
  refine And.imp_right (fun kk => z_aload_n (pc := 725) hG 1 rfl rfl dL_law_725 kk) ?_
  refine And.imp_right (fun kk => z_iload (pc := 726) hG 5 rfl dL_law_726 kk) ?_
  refine And.imp_right (fun kk => z_iconst (pc := 728) hG kc_1 dL_law_728 kk) ?_
  refine And.imp_right (fun kk => z_iadd (pc := 729) hG dL_law_729 kk) ?_
  refine And.imp_right (fun kk => z_scr (pc := 730) hG hS 1 (by decide) rfl dL_law_730 kk) ?_
  refine And.imp_right (fun kk => z_aload_n (pc := 731) hG 1 rfl rfl dL_law_731 kk) ?_
  refine And.imp_right (fun kk => z_iload (pc := 732) hG 5 rfl dL_law_732 kk) ?_
  refine And.imp_right (fun kk => z_iconst (pc := 734) hG kc_2 dL_law_734 kk) ?_
  refine And.imp_right (fun kk => z_iadd (pc := 735) hG dL_law_735 kk) ?_
  refine And.imp_right (fun kk => z_scr (pc := 736) hG hS 2 (by decide) rfl dL_law_736 kk) ?_
  replace h := zbind h
  obtain ⟨v2, hv2, h⟩ := h
  replace h := zchk_some h
  obtain ⟨hqv2, h⟩ := h
  refine And.imp_right (fun kk => z_cvI (A' := A0 + (C / 64 - v1.2.2.2.2 / 64)) (B' := B0 + 2 * (C - v1.2.2.2.2)) (nc := 0) (ns := 0) (rest := []) hG [.int (a 1), .int (a 2)] zc_X11 DL_42 (tX11_answer hl0 (a 1) (a 2) v1.2 hv2) zy_X11_answer ⟨w1796, w1797⟩ w1795 dL_law_737 rfl (Nat.le_of_ble_eq_true rfl) (by omega) (by omega) rfl (Nat.le_of_ble_eq_true rfl) rfl kk) ?_
  refine zpc (of_decide_eq_true hqv2) ?_
  refine And.imp_right (fun kk => z_istore (pc := 740) (ls' := [(6, .int v2.1), (5, .int v1.1), (0, .ref 950), (1, .ref 0), (2, .ref 42), (3, .ref 72), (4, .int i)]) hG [0, 1, 2, 3, 4, 5, 6] (by decide) rfl dL_law_740 kk) ?_
  refine And.imp_right (fun kk => z_goto (pc := 742) (tgt := 1967) hG dL_law_742 rfl kk) ?_
  obtain rfl := Option.some.inj h
  refine And.imp_right (fun kk => z_sub (ls' := [(0, .ref 950), (1, .ref 0), (2, .ref 42), (3, .ref 72), (4, .int i)]) [2, 3, 4, 5, 6] rfl kk) ?_
  exact kf
noncomputable def nS_15 (a : Nat → Int32) (g : zS) : Option zS :=
  (nL_tell (a 1) (a 2) (a 3) g).bind fun v1 => zchk (decide (v1.2.2.2.2 = g.2.2.2)) ((nX11_tell (a 1) (a 2) (a 3) v1.2).bind fun v2 => zchk (decide (v2.2.2.2.2 = v1.2.2.2.2)) ((nX11_thrown v2.2).bind fun v3 => if v3 = v1.1 then (if v1.1 = 0 then (if (lg_cmp (v2.2.2.1 72 (0 : Int32).toNatClampNeg) v2.1.toInt64) = 0 then (some v2.2) else (none)) else (some v2.2)) else (none)))
noncomputable def nU_15 (a : Nat → Int32) (g : zS) : Option zS :=
  (nL_tell (a 1) (a 2) (a 3) g).bind fun v1 => zchk (decide (v1.2.2.2.2 = g.2.2.2)) ((nX11_tell (a 1) (a 2) (a 3) v1.2).bind fun v2 => zchk (decide (v2.2.2.2.2 = v1.2.2.2.2)) (some v2.2))
set_option maxHeartbeats 1000000 in
theorem tS_15 {x : zXx} {i : Int32} {a : Nat → Int32} (hl0 : (zl0 x).flags = flags0) (hG : zG x cL_law 7 RL ret) (hPx : zPx x.2.2.2.2.1) (hS : zScr x i a) {A0 B0 C : Nat} (g : zS) {r : zS} (h : nU_15 a g = some r) (kf : zgr r C ∧ zK x 66 1967 [(0, .ref 950), (1, .ref 0), (2, .ref 42), (3, .ref 72), (4, .int i)] [] zD r (A0 + (C / 64 - r.2.2.2 / 64)) (B0 + 2 * (C - r.2.2.2))) : zgr g C ∧ zK x 66 745 [(0, .ref 950), (1, .ref 0), (2, .ref 42), (3, .ref 72), (4, .int i)] [] zD g (A0 + 3 + (C / 64 - g.2.2.2 / 64)) (B0 + 18 + 2 * (C - g.2.2.2)) := by
  unfold nU_15 at h
  refine And.imp_right (fun kk => z_aload_n (pc := 745) hG 1 rfl rfl dL_law_745 kk) ?_
  refine And.imp_right (fun kk => z_aload_n (pc := 746) hG 0 rfl rfl dL_law_746 kk) ?_
  refine And.imp_right (fun kk => z_iload (pc := 747) hG 4 rfl dL_law_747 kk) ?_
  refine And.imp_right (fun kk => z_iconst (pc := 749) hG kc_1 dL_law_749 kk) ?_
  refine And.imp_right (fun kk => z_iadd (pc := 750) hG dL_law_750 kk) ?_
  refine And.imp_right (fun kk => z_scr (pc := 751) hG hS 1 (by decide) rfl dL_law_751 kk) ?_
  refine And.imp_right (fun kk => z_aload_n (pc := 752) hG 0 rfl rfl dL_law_752 kk) ?_
  refine And.imp_right (fun kk => z_iload (pc := 753) hG 4 rfl dL_law_753 kk) ?_
  refine And.imp_right (fun kk => z_iconst (pc := 755) hG kc_2 dL_law_755 kk) ?_
  refine And.imp_right (fun kk => z_iadd (pc := 756) hG dL_law_756 kk) ?_
  refine And.imp_right (fun kk => z_scr (pc := 757) hG hS 2 (by decide) rfl dL_law_757 kk) ?_
  refine And.imp_right (fun kk => z_aload_n (pc := 758) hG 0 rfl rfl dL_law_758 kk) ?_
  refine And.imp_right (fun kk => z_iload (pc := 759) hG 4 rfl dL_law_759 kk) ?_
  refine And.imp_right (fun kk => z_iconst (pc := 761) hG kc_3 dL_law_761 kk) ?_
  refine And.imp_right (fun kk => z_iadd (pc := 762) hG dL_law_762 kk) ?_
  refine And.imp_right (fun kk => z_scr (pc := 763) hG hS 3 (by decide) rfl dL_law_763 kk) ?_
  refine And.imp_right (fun kk => z_aload_n (pc := 764) hG 3 rfl rfl dL_law_764 kk) ?_
  replace h := zbind h
  obtain ⟨v1, hv1, h⟩ := h
  replace h := zchk_some h
  obtain ⟨hqv1, h⟩ := h
  refine And.imp_right (fun kk => z_csH (A' := A0 + (C / 64 - g.2.2.2 / 64)) (B' := B0 + 2 * (C - g.2.2.2)) (rest := []) hG hPx [.ref 0, .int (a 1), .int (a 2), .int (a 3), .ref 72] (tL_tell hl0 (a 1) (a 2) (a 3) g hv1) zyH_tell w997 w996 dL_law_765 rfl (Nat.le_of_ble_eq_true rfl) (by omega) (by omega) rfl (Nat.le_of_ble_eq_true rfl) rfl kk) ?_
  refine zpc (of_decide_eq_true hqv1) ?_
  refine And.imp_right (fun kk => z_istore (pc := 768) (ls' := [(5, .int v1.1), (0, .ref 950), (1, .ref 0), (2, .ref 42), (3, .ref 72), (4, .int i)]) hG [0, 1, 2, 3, 4, 5] (by decide) rfl dL_law_768 kk) ?_
  refine And.imp_right (fun kk => z_aload_n (pc := 770) hG 3 rfl rfl dL_law_770 kk) ?_
  refine And.imp_right (fun kk => z_aload_n (pc := 771) hG 1 rfl rfl dL_law_771 kk) ?_
  refine And.imp_right (fun kk => z_iload (pc := 772) hG 5 rfl dL_law_772 kk) ?_
  refine And.imp_right (fun kk => z_iconst (pc := 774) hG kc_1 dL_law_774 kk) ?_
  refine And.imp_right (fun kk => z_iadd (pc := 775) hG dL_law_775 kk) ?_
  refine And.imp_right (fun kk => z_scr (pc := 776) hG hS 1 (by decide) rfl dL_law_776 kk) ?_
  refine And.imp_right (fun kk => z_aload_n (pc := 777) hG 1 rfl rfl dL_law_777 kk) ?_
  refine And.imp_right (fun kk => z_iload (pc := 778) hG 5 rfl dL_law_778 kk) ?_
  refine And.imp_right (fun kk => z_iconst (pc := 780) hG kc_2 dL_law_780 kk) ?_
  refine And.imp_right (fun kk => z_iadd (pc := 781) hG dL_law_781 kk) ?_
  refine And.imp_right (fun kk => z_scr (pc := 782) hG hS 2 (by decide) rfl dL_law_782 kk) ?_
  refine And.imp_right (fun kk => z_aload_n (pc := 783) hG 1 rfl rfl dL_law_783 kk) ?_
  refine And.imp_right (fun kk => z_iload (pc := 784) hG 5 rfl dL_law_784 kk) ?_
  refine And.imp_right (fun kk => z_iconst (pc := 786) hG kc_3 dL_law_786 kk) ?_
  refine And.imp_right (fun kk => z_iadd (pc := 787) hG dL_law_787 kk) ?_
  refine And.imp_right (fun kk => z_scr (pc := 788) hG hS 3 (by decide) rfl dL_law_788 kk) ?_
  replace h := zbind h
  obtain ⟨v2, hv2, h⟩ := h
  replace h := zchk_some h
  obtain ⟨hqv2, h⟩ := h
  refine And.imp_right (fun kk => z_cvI (A' := A0 + (C / 64 - v1.2.2.2.2 / 64)) (B' := B0 + 2 * (C - v1.2.2.2.2)) (nc := 0) (ns := 0) (rest := []) hG [.int (a 1), .int (a 2), .int (a 3)] zc_X11 DL_42 (tX11_tell hl0 (a 1) (a 2) (a 3) v1.2 hv2) zy_X11_tell ⟨w1808, w1809⟩ w1807 dL_law_789 rfl (Nat.le_of_ble_eq_true rfl) (by omega) (by omega) rfl (Nat.le_of_ble_eq_true rfl) rfl kk) ?_
  refine zpc (of_decide_eq_true hqv2) ?_
  refine And.imp_right (fun kk => z_istore (pc := 792) (ls' := [(6, .int v2.1), (5, .int v1.1), (0, .ref 950), (1, .ref 0), (2, .ref 42), (3, .ref 72), (4, .int i)]) hG [0, 1, 2, 3, 4, 5, 6] (by decide) rfl dL_law_792 kk) ?_
  refine And.imp_right (fun kk => z_goto (pc := 794) (tgt := 1967) hG dL_law_794 rfl kk) ?_
  obtain rfl := Option.some.inj h
  refine And.imp_right (fun kk => z_sub (ls' := [(0, .ref 950), (1, .ref 0), (2, .ref 42), (3, .ref 72), (4, .int i)]) [2, 3, 4, 5, 6] rfl kk) ?_
  exact kf
noncomputable def nS_16 (a : Nat → Int32) (g : zS) : Option zS :=
  (nL_copy (a 1) g).bind fun v1 => zchk (decide (v1.2.2.2.2 = g.2.2.2)) ((nX11_copy (a 1) v1.2).bind fun v2 => zchk (decide (v2.2.2.2.2 = v1.2.2.2.2)) ((nX11_thrown v2.2).bind fun v3 => if v3 = v1.1 then (if v1.1 = 0 then (if (lg_cmp (v2.2.2.1 72 (0 : Int32).toNatClampNeg) v2.1.toInt64) = 0 then (some v2.2) else (none)) else (some v2.2)) else (none)))
noncomputable def nU_16 (a : Nat → Int32) (g : zS) : Option zS :=
  (nL_copy (a 1) g).bind fun v1 => zchk (decide (v1.2.2.2.2 = g.2.2.2)) ((nX11_copy (a 1) v1.2).bind fun v2 => zchk (decide (v2.2.2.2.2 = v1.2.2.2.2)) (some v2.2))
set_option maxHeartbeats 1000000 in
theorem tS_16 {x : zXx} {i : Int32} {a : Nat → Int32} (hl0 : (zl0 x).flags = flags0) (hG : zG x cL_law 7 RL ret) (hPx : zPx x.2.2.2.2.1) (hS : zScr x i a) {A0 B0 C : Nat} (g : zS) {r : zS} (h : nU_16 a g = some r) (kf : zgr r C ∧ zK x 66 1967 [(0, .ref 950), (1, .ref 0), (2, .ref 42), (3, .ref 72), (4, .int i)] [] zD r (A0 + (C / 64 - r.2.2.2 / 64)) (B0 + 2 * (C - r.2.2.2))) : zgr g C ∧ zK x 66 797 [(0, .ref 950), (1, .ref 0), (2, .ref 42), (3, .ref 72), (4, .int i)] [] zD g (A0 + 2 + (C / 64 - g.2.2.2 / 64)) (B0 + 12 + 2 * (C - g.2.2.2)) := by
  unfold nU_16 at h
  refine And.imp_right (fun kk => z_aload_n (pc := 797) hG 1 rfl rfl dL_law_797 kk) ?_
  refine And.imp_right (fun kk => z_aload_n (pc := 798) hG 0 rfl rfl dL_law_798 kk) ?_
  refine And.imp_right (fun kk => z_iload (pc := 799) hG 4 rfl dL_law_799 kk) ?_
  refine And.imp_right (fun kk => z_iconst (pc := 801) hG kc_1 dL_law_801 kk) ?_
  refine And.imp_right (fun kk => z_iadd (pc := 802) hG dL_law_802 kk) ?_
  refine And.imp_right (fun kk => z_scr (pc := 803) hG hS 1 (by decide) rfl dL_law_803 kk) ?_
  refine And.imp_right (fun kk => z_aload_n (pc := 804) hG 3 rfl rfl dL_law_804 kk) ?_
  replace h := zbind h
  obtain ⟨v1, hv1, h⟩ := h
  replace h := zchk_some h
  obtain ⟨hqv1, h⟩ := h
  refine And.imp_right (fun kk => z_csH (A' := A0 + (C / 64 - g.2.2.2 / 64)) (B' := B0 + 2 * (C - g.2.2.2)) (rest := []) hG hPx [.ref 0, .int (a 1), .ref 72] (tL_copy hl0 (a 1) g hv1) zyH_copy w1013 w1012 dL_law_805 rfl (Nat.le_of_ble_eq_true rfl) (by omega) (by omega) rfl (Nat.le_of_ble_eq_true rfl) rfl kk) ?_
  refine zpc (of_decide_eq_true hqv1) ?_
  refine And.imp_right (fun kk => z_istore (pc := 808) (ls' := [(5, .int v1.1), (0, .ref 950), (1, .ref 0), (2, .ref 42), (3, .ref 72), (4, .int i)]) hG [0, 1, 2, 3, 4, 5] (by decide) rfl dL_law_808 kk) ?_
  refine And.imp_right (fun kk => z_aload_n (pc := 810) hG 3 rfl rfl dL_law_810 kk) ?_
  refine And.imp_right (fun kk => z_aload_n (pc := 811) hG 1 rfl rfl dL_law_811 kk) ?_
  refine And.imp_right (fun kk => z_iload (pc := 812) hG 5 rfl dL_law_812 kk) ?_
  refine And.imp_right (fun kk => z_iconst (pc := 814) hG kc_1 dL_law_814 kk) ?_
  refine And.imp_right (fun kk => z_iadd (pc := 815) hG dL_law_815 kk) ?_
  refine And.imp_right (fun kk => z_scr (pc := 816) hG hS 1 (by decide) rfl dL_law_816 kk) ?_
  replace h := zbind h
  obtain ⟨v2, hv2, h⟩ := h
  replace h := zchk_some h
  obtain ⟨hqv2, h⟩ := h
  refine And.imp_right (fun kk => z_cvI (A' := A0 + (C / 64 - v1.2.2.2.2 / 64)) (B' := B0 + 2 * (C - v1.2.2.2.2)) (nc := 0) (ns := 0) (rest := []) hG [.int (a 1)] zc_X11 DL_42 (tX11_copy hl0 (a 1) v1.2 hv2) zy_X11_copy ⟨w1816, w1817⟩ w1815 dL_law_817 rfl (Nat.le_of_ble_eq_true rfl) (by omega) (by omega) rfl (Nat.le_of_ble_eq_true rfl) rfl kk) ?_
  refine zpc (of_decide_eq_true hqv2) ?_
  refine And.imp_right (fun kk => z_istore (pc := 820) (ls' := [(6, .int v2.1), (5, .int v1.1), (0, .ref 950), (1, .ref 0), (2, .ref 42), (3, .ref 72), (4, .int i)]) hG [0, 1, 2, 3, 4, 5, 6] (by decide) rfl dL_law_820 kk) ?_
  refine And.imp_right (fun kk => z_goto (pc := 822) (tgt := 1967) hG dL_law_822 rfl kk) ?_
  obtain rfl := Option.some.inj h
  refine And.imp_right (fun kk => z_sub (ls' := [(0, .ref 950), (1, .ref 0), (2, .ref 42), (3, .ref 72), (4, .int i)]) [2, 3, 4, 5, 6] rfl kk) ?_
  exact kf
noncomputable def nS_17 (a : Nat → Int32) (g : zS) : Option zS :=
  (nL_drop  g).bind fun v1 => zchk (decide (v1.2.2.2.2 = g.2.2.2)) ((nX11_drop v1.2).bind fun v2 => zchk (decide (v2.2.2.2.2 = v1.2.2.2.2)) ((nX11_thrown v2.2).bind fun v3 => if v3 = v1.1 then (if v1.1 = 0 then (if (lg_cmp (v2.2.2.1 72 (0 : Int32).toNatClampNeg) v2.1.toInt64) = 0 then (some v2.2) else (none)) else (some v2.2)) else (none)))
noncomputable def nU_17 (a : Nat → Int32) (g : zS) : Option zS :=
  (nL_drop  g).bind fun v1 => zchk (decide (v1.2.2.2.2 = g.2.2.2)) ((nX11_drop v1.2).bind fun v2 => zchk (decide (v2.2.2.2.2 = v1.2.2.2.2)) (some v2.2))
set_option maxHeartbeats 1000000 in
theorem tS_17 {x : zXx} {i : Int32} {a : Nat → Int32} (hl0 : (zl0 x).flags = flags0) (hG : zG x cL_law 7 RL ret) (hPx : zPx x.2.2.2.2.1) (hS : zScr x i a) {A0 B0 C : Nat} (g : zS) {r : zS} (h : nU_17 a g = some r) (kf : zgr r C ∧ zK x 66 1967 [(0, .ref 950), (1, .ref 0), (2, .ref 42), (3, .ref 72), (4, .int i)] [] zD r (A0 + (C / 64 - r.2.2.2 / 64)) (B0 + 2 * (C - r.2.2.2))) : zgr g C ∧ zK x 66 825 [(0, .ref 950), (1, .ref 0), (2, .ref 42), (3, .ref 72), (4, .int i)] [] zD g (A0 + 1 + (C / 64 - g.2.2.2 / 64)) (B0 + 6 + 2 * (C - g.2.2.2)) := by
  unfold nU_17 at h
  refine And.imp_right (fun kk => z_aload_n (pc := 825) hG 1 rfl rfl dL_law_825 kk) ?_
  refine And.imp_right (fun kk => z_aload_n (pc := 826) hG 3 rfl rfl dL_law_826 kk) ?_
  replace h := zbind h
  obtain ⟨v1, hv1, h⟩ := h
  replace h := zchk_some h
  obtain ⟨hqv1, h⟩ := h
  refine And.imp_right (fun kk => z_csH (A' := A0 + (C / 64 - g.2.2.2 / 64)) (B' := B0 + 2 * (C - g.2.2.2)) (rest := []) hG hPx [.ref 0, .ref 72] (tL_drop hl0  g hv1) zyH_drop w1036 w1035 dL_law_827 rfl (Nat.le_of_ble_eq_true rfl) (by omega) (by omega) rfl (Nat.le_of_ble_eq_true rfl) rfl kk) ?_
  refine zpc (of_decide_eq_true hqv1) ?_
  refine And.imp_right (fun kk => z_istore (pc := 830) (ls' := [(5, .int v1.1), (0, .ref 950), (1, .ref 0), (2, .ref 42), (3, .ref 72), (4, .int i)]) hG [0, 1, 2, 3, 4, 5] (by decide) rfl dL_law_830 kk) ?_
  refine And.imp_right (fun kk => z_aload_n (pc := 832) hG 3 rfl rfl dL_law_832 kk) ?_
  replace h := zbind h
  obtain ⟨v2, hv2, h⟩ := h
  replace h := zchk_some h
  obtain ⟨hqv2, h⟩ := h
  refine And.imp_right (fun kk => z_cvI (A' := A0 + (C / 64 - v1.2.2.2.2 / 64)) (B' := B0 + 2 * (C - v1.2.2.2.2)) (nc := 0) (ns := 0) (rest := []) hG [] zc_X11 DL_42 (tX11_drop hl0  v1.2 hv2) zy_X11_drop ⟨w1820, w1821⟩ w1819 dL_law_833 rfl (Nat.le_of_ble_eq_true rfl) (by omega) (by omega) rfl (Nat.le_of_ble_eq_true rfl) rfl kk) ?_
  refine zpc (of_decide_eq_true hqv2) ?_
  refine And.imp_right (fun kk => z_istore (pc := 836) (ls' := [(6, .int v2.1), (5, .int v1.1), (0, .ref 950), (1, .ref 0), (2, .ref 42), (3, .ref 72), (4, .int i)]) hG [0, 1, 2, 3, 4, 5, 6] (by decide) rfl dL_law_836 kk) ?_
  refine And.imp_right (fun kk => z_goto (pc := 838) (tgt := 1967) hG dL_law_838 rfl kk) ?_
  obtain rfl := Option.some.inj h
  refine And.imp_right (fun kk => z_sub (ls' := [(0, .ref 950), (1, .ref 0), (2, .ref 42), (3, .ref 72), (4, .int i)]) [2, 3, 4, 5, 6] rfl kk) ?_
  exact kf
noncomputable def nS_18 (a : Nat → Int32) (g : zS) : Option zS :=
  (nL_fails (a 1) g).bind fun v1 => zchk (decide (v1.2.2.2.2 = g.2.2.2)) ((nX11_fails (a 1) v1.2).bind fun v2 => zchk (decide (v2.2.2.2.2 = v1.2.2.2.2)) ((nX11_thrown v2.2).bind fun v3 => if v3 = v1.1 then (if v1.1 = 0 then (if (lg_cmp (v2.2.2.1 72 (0 : Int32).toNatClampNeg) v2.1.toInt64) = 0 then (some v2.2) else (none)) else (some v2.2)) else (none)))
set_option maxHeartbeats 1000000 in
theorem tS_18 {x : zXx} {i : Int32} {a : Nat → Int32} (hl0 : (zl0 x).flags = flags0) (hG : zG x cL_law 7 RL ret) (hPx : zPx x.2.2.2.2.1) (hS : zScr x i a) {A0 B0 C : Nat} (g : zS) {r : zS} (h : nS_18 a g = some r) (kf : zgr r C ∧ zK x 66 1967 [(0, .ref 950), (1, .ref 0), (2, .ref 42), (3, .ref 72), (4, .int i)] [] zD r (A0 + (C / 64 - r.2.2.2 / 64)) (B0 + 2 * (C - r.2.2.2))) : zgr g C ∧ zK x 66 841 [(0, .ref 950), (1, .ref 0), (2, .ref 42), (3, .ref 72), (4, .int i)] [] zD g (A0 + 1 + (C / 64 - g.2.2.2 / 64)) (B0 + 6 + 2 * (C - g.2.2.2)) := by
  unfold nS_18 at h
  refine And.imp_right (fun kk => z_aload_n (pc := 841) hG 1 rfl rfl dL_law_841 kk) ?_
  refine And.imp_right (fun kk => z_aload_n (pc := 842) hG 0 rfl rfl dL_law_842 kk) ?_
  refine And.imp_right (fun kk => z_iload (pc := 843) hG 4 rfl dL_law_843 kk) ?_
  refine And.imp_right (fun kk => z_iconst (pc := 845) hG kc_1 dL_law_845 kk) ?_
  refine And.imp_right (fun kk => z_iadd (pc := 846) hG dL_law_846 kk) ?_
  refine And.imp_right (fun kk => z_scr (pc := 847) hG hS 1 (by decide) rfl dL_law_847 kk) ?_
  refine And.imp_right (fun kk => z_aload_n (pc := 848) hG 3 rfl rfl dL_law_848 kk) ?_
  replace h := zbind h
  obtain ⟨v1, hv1, h⟩ := h
  replace h := zchk_some h
  obtain ⟨hqv1, h⟩ := h
  refine And.imp_right (fun kk => z_csH (A' := A0 + (C / 64 - g.2.2.2 / 64)) (B' := B0 + 2 * (C - g.2.2.2)) (rest := []) hG hPx [.ref 0, .int (a 1), .ref 72] (tL_fails hl0 (a 1) g hv1) zyH_fails w1043 w1042 dL_law_849 rfl (Nat.le_of_ble_eq_true rfl) (by omega) (by omega) rfl (Nat.le_of_ble_eq_true rfl) rfl kk) ?_
  refine zpc (of_decide_eq_true hqv1) ?_
  refine And.imp_right (fun kk => z_istore (pc := 852) (ls' := [(5, .int v1.1), (0, .ref 950), (1, .ref 0), (2, .ref 42), (3, .ref 72), (4, .int i)]) hG [0, 1, 2, 3, 4, 5] (by decide) rfl dL_law_852 kk) ?_
  refine And.imp_right (fun kk => z_aload_n (pc := 854) hG 3 rfl rfl dL_law_854 kk) ?_
  refine And.imp_right (fun kk => z_aload_n (pc := 855) hG 1 rfl rfl dL_law_855 kk) ?_
  refine And.imp_right (fun kk => z_iload (pc := 856) hG 5 rfl dL_law_856 kk) ?_
  refine And.imp_right (fun kk => z_iconst (pc := 858) hG kc_1 dL_law_858 kk) ?_
  refine And.imp_right (fun kk => z_iadd (pc := 859) hG dL_law_859 kk) ?_
  refine And.imp_right (fun kk => z_scr (pc := 860) hG hS 1 (by decide) rfl dL_law_860 kk) ?_
  replace h := zbind h
  obtain ⟨v2, hv2, h⟩ := h
  replace h := zchk_some h
  obtain ⟨hqv2, h⟩ := h
  refine And.imp_right (fun kk => z_cvI (A' := A0 + (C / 64 - v1.2.2.2.2 / 64)) (B' := B0 + 2 * (C - v1.2.2.2.2)) (nc := 0) (ns := 0) (rest := []) hG [.int (a 1)] zc_X11 DL_42 (tX11_fails hl0 (a 1) v1.2 hv2) zy_X11_fails ⟨w1824, w1825⟩ w1823 dL_law_861 rfl (Nat.le_of_ble_eq_true rfl) (by omega) (by omega) rfl (Nat.le_of_ble_eq_true rfl) rfl kk) ?_
  refine zpc (of_decide_eq_true hqv2) ?_
  refine And.imp_right (fun kk => z_istore (pc := 864) (ls' := [(6, .int v2.1), (5, .int v1.1), (0, .ref 950), (1, .ref 0), (2, .ref 42), (3, .ref 72), (4, .int i)]) hG [0, 1, 2, 3, 4, 5, 6] (by decide) rfl dL_law_864 kk) ?_
  refine And.imp_right (fun kk => z_aload_n (pc := 866) hG 4 rfl rfl dL_law_866 kk) ?_
  replace h := zbind h
  obtain ⟨v3, hv3, h⟩ := h
  refine And.imp_right (fun kk => z_cvI (A' := A0 + (C / 64 - v2.2.2.2.2 / 64)) (B' := B0 + 2 * (C - v2.2.2.2.2)) (nc := 0) (ns := 0) (rest := []) hG [] zc_X11 DL_42 (tX11_thrown hl0  v2.2 hv3) zy_X11_thrown ⟨w1595, w1596⟩ w1594 dL_law_867 rfl (Nat.le_of_ble_eq_true rfl) (by omega) (by omega) rfl (Nat.le_of_ble_eq_true rfl) rfl kk) ?_
  refine And.imp_right (fun kk => z_iload (pc := 870) hG 1 rfl dL_law_870 kk) ?_
  by_cases hc : v3 = v1.1
  rotate_left
  · replace h := zif_f hc h
    cases h
  replace h := zif_t hc h
  refine And.imp_right (fun kk => z_icmp_eq (pc := 872) (tgt := 877) hG dL_law_872 rfl (fun _ => kk) (fun q => (q hc).elim)) ?_
  refine And.imp_right (fun kk => z_iload (pc := 877) hG 1 rfl dL_law_877 kk) ?_
  refine zbr (c := v1.1 = 0) (fun hc => ?_) (fun hc => ?_) (fun k1 k2 => z_if_ne (pc := 879) (tgt := 894) hG dL_law_879 rfl k2 k1)
  · replace h := zif_t hc h
    refine And.imp_right (fun kk => z_aload_n (pc := 882) hG 5 rfl rfl dL_law_882 kk) ?_
    refine And.imp_right (fun kk => z_iconst (pc := 883) hG kc_0 dL_law_883 kk) ?_
    refine And.imp_right (fun kk => z_lald (pc := 884) hG DL_72 (zin_in (by decide)) dL_law_884 kk) ?_
    refine And.imp_right (fun kk => z_iload (pc := 885) hG 0 rfl dL_law_885 kk) ?_
    refine And.imp_right (fun kk => z_i2l (pc := 887) hG dL_law_887 kk) ?_
    refine And.imp_right (fun kk => z_lcmp (pc := 888) hG dL_law_888 kk) ?_
    by_cases hc : (lg_cmp (v2.2.2.1 72 (0 : Int32).toNatClampNeg) v2.1.toInt64) = 0
    rotate_left
    · replace h := zif_f hc h
      cases h
    replace h := zif_t hc h
    refine And.imp_right (fun kk => z_if_eq (pc := 889) (tgt := 894) hG dL_law_889 rfl (fun _ => kk) (fun q => (q hc).elim)) ?_
    refine And.imp_right (fun kk => z_goto (pc := 894) (tgt := 1967) hG dL_law_894 rfl kk) ?_
    obtain rfl := Option.some.inj h
    refine And.imp_right (fun kk => z_sub (ls' := [(0, .ref 950), (1, .ref 0), (2, .ref 42), (3, .ref 72), (4, .int i)]) [2, 3, 4, 5, 6] rfl kk) ?_
    exact kf
  · replace h := zif_f hc h
    refine And.imp_right (fun kk => z_goto (pc := 894) (tgt := 1967) hG dL_law_894 rfl kk) ?_
    obtain rfl := Option.some.inj h
    refine And.imp_right (fun kk => z_sub (ls' := [(0, .ref 950), (1, .ref 0), (2, .ref 42), (3, .ref 72), (4, .int i)]) [2, 3, 4, 5, 6] rfl kk) ?_
    exact kf
noncomputable def nS_19 (a : Nat → Int32) (g : zS) : Option zS :=
  (nL_within (a 1) (a 2) g).bind fun v1 => zchk (decide (g.2.2.2 ≤ v1.2.2.2.2)) ((nX11_within (a 1) (a 2) v1.2).bind fun v2 => zchk (decide (v2.2.2.2.2 = v1.2.2.2.2)) ((nX11_thrown v2.2).bind fun v3 => if v3 = v1.1 then (if v1.1 = 0 then (if (lg_cmp (v2.2.2.1 72 (0 : Int32).toNatClampNeg) v2.1.toInt64) = 0 then (some v2.2) else (none)) else (some v2.2)) else (none)))
noncomputable def nU_19 (a : Nat → Int32) (g : zS) : Option zS :=
  (nL_within (a 1) (a 2) g).bind fun v1 => zchk (decide (g.2.2.2 ≤ v1.2.2.2.2)) ((nX11_within (a 1) (a 2) v1.2).bind fun v2 => zchk (decide (v2.2.2.2.2 = v1.2.2.2.2)) (some v2.2))
set_option maxHeartbeats 1000000 in
theorem tS_19 {x : zXx} {i : Int32} {a : Nat → Int32} (hl0 : (zl0 x).flags = flags0) (hG : zG x cL_law 7 RL ret) (hPx : zPx x.2.2.2.2.1) (hS : zScr x i a) {A0 B0 C : Nat} (g : zS) {r : zS} (h : nU_19 a g = some r) (kf : zgr r C ∧ zK x 66 1967 [(0, .ref 950), (1, .ref 0), (2, .ref 42), (3, .ref 72), (4, .int i)] [] zD r (A0 + (C / 64 - r.2.2.2 / 64)) (B0 + 2 * (C - r.2.2.2))) : zgr g C ∧ zK x 66 897 [(0, .ref 950), (1, .ref 0), (2, .ref 42), (3, .ref 72), (4, .int i)] [] zD g (A0 + 2 + (C / 64 - g.2.2.2 / 64)) (B0 + 12 + 2 * (C - g.2.2.2)) := by
  unfold nU_19 at h
  refine And.imp_right (fun kk => z_aload_n (pc := 897) hG 1 rfl rfl dL_law_897 kk) ?_
  refine And.imp_right (fun kk => z_aload_n (pc := 898) hG 0 rfl rfl dL_law_898 kk) ?_
  refine And.imp_right (fun kk => z_iload (pc := 899) hG 4 rfl dL_law_899 kk) ?_
  refine And.imp_right (fun kk => z_iconst (pc := 901) hG kc_1 dL_law_901 kk) ?_
  refine And.imp_right (fun kk => z_iadd (pc := 902) hG dL_law_902 kk) ?_
  refine And.imp_right (fun kk => z_scr (pc := 903) hG hS 1 (by decide) rfl dL_law_903 kk) ?_
  refine And.imp_right (fun kk => z_aload_n (pc := 904) hG 0 rfl rfl dL_law_904 kk) ?_
  refine And.imp_right (fun kk => z_iload (pc := 905) hG 4 rfl dL_law_905 kk) ?_
  refine And.imp_right (fun kk => z_iconst (pc := 907) hG kc_2 dL_law_907 kk) ?_
  refine And.imp_right (fun kk => z_iadd (pc := 908) hG dL_law_908 kk) ?_
  refine And.imp_right (fun kk => z_scr (pc := 909) hG hS 2 (by decide) rfl dL_law_909 kk) ?_
  refine And.imp_right (fun kk => z_aload_n (pc := 910) hG 3 rfl rfl dL_law_910 kk) ?_
  replace h := zbind h
  obtain ⟨v1, hv1, h⟩ := h
  replace h := zchk_some h
  obtain ⟨hqv1, h⟩ := h
  replace hqv1 := of_decide_eq_true hqv1
  refine And.elim (fun hb kk => ⟨Nat.le_trans hqv1 hb, z_csH (A' := A0 + (C / 64 - v1.2.2.2.2 / 64)) (B' := B0 + 2 * (C - v1.2.2.2.2)) (rest := []) hG hPx [.ref 0, .int (a 1), .int (a 2), .ref 72] (tL_within hl0 (a 1) (a 2) g hv1) zyH_within w1050 w1049 dL_law_911 rfl (Nat.le_of_ble_eq_true rfl) (by have hb : v1.2.2.2.2 ≤ C := hb; omega) (by have hb : v1.2.2.2.2 ≤ C := hb; omega) rfl (Nat.le_of_ble_eq_true rfl) rfl kk⟩) ?_
  refine And.imp_right (fun kk => z_istore (pc := 914) (ls' := [(5, .int v1.1), (0, .ref 950), (1, .ref 0), (2, .ref 42), (3, .ref 72), (4, .int i)]) hG [0, 1, 2, 3, 4, 5] (by decide) rfl dL_law_914 kk) ?_
  refine And.imp_right (fun kk => z_aload_n (pc := 916) hG 3 rfl rfl dL_law_916 kk) ?_
  refine And.imp_right (fun kk => z_aload_n (pc := 917) hG 1 rfl rfl dL_law_917 kk) ?_
  refine And.imp_right (fun kk => z_iload (pc := 918) hG 5 rfl dL_law_918 kk) ?_
  refine And.imp_right (fun kk => z_iconst (pc := 920) hG kc_1 dL_law_920 kk) ?_
  refine And.imp_right (fun kk => z_iadd (pc := 921) hG dL_law_921 kk) ?_
  refine And.imp_right (fun kk => z_scr (pc := 922) hG hS 1 (by decide) rfl dL_law_922 kk) ?_
  refine And.imp_right (fun kk => z_aload_n (pc := 923) hG 1 rfl rfl dL_law_923 kk) ?_
  refine And.imp_right (fun kk => z_iload (pc := 924) hG 5 rfl dL_law_924 kk) ?_
  refine And.imp_right (fun kk => z_iconst (pc := 926) hG kc_2 dL_law_926 kk) ?_
  refine And.imp_right (fun kk => z_iadd (pc := 927) hG dL_law_927 kk) ?_
  refine And.imp_right (fun kk => z_scr (pc := 928) hG hS 2 (by decide) rfl dL_law_928 kk) ?_
  replace h := zbind h
  obtain ⟨v2, hv2, h⟩ := h
  replace h := zchk_some h
  obtain ⟨hqv2, h⟩ := h
  refine And.imp_right (fun kk => z_cvI (A' := A0 + (C / 64 - v1.2.2.2.2 / 64)) (B' := B0 + 2 * (C - v1.2.2.2.2)) (nc := 0) (ns := 0) (rest := []) hG [.int (a 1), .int (a 2)] zc_X11 DL_42 (tX11_within hl0 (a 1) (a 2) v1.2 hv2) zy_X11_within ⟨w1832, w1833⟩ w1831 dL_law_929 rfl (Nat.le_of_ble_eq_true rfl) (by omega) (by omega) rfl (Nat.le_of_ble_eq_true rfl) rfl kk) ?_
  refine zpc (of_decide_eq_true hqv2) ?_
  refine And.imp_right (fun kk => z_istore (pc := 932) (ls' := [(6, .int v2.1), (5, .int v1.1), (0, .ref 950), (1, .ref 0), (2, .ref 42), (3, .ref 72), (4, .int i)]) hG [0, 1, 2, 3, 4, 5, 6] (by decide) rfl dL_law_932 kk) ?_
  refine And.imp_right (fun kk => z_goto (pc := 934) (tgt := 1967) hG dL_law_934 rfl kk) ?_
  obtain rfl := Option.some.inj h
  refine And.imp_right (fun kk => z_sub (ls' := [(0, .ref 950), (1, .ref 0), (2, .ref 42), (3, .ref 72), (4, .int i)]) [2, 3, 4, 5, 6] rfl kk) ?_
  exact kf
noncomputable def nS_20 (a : Nat → Int32) (g : zS) : Option zS :=
  (nL_may (a 1) (a 2) g).bind fun v1 => zchk (decide (v1.2.2.2.2 = g.2.2.2)) ((nX11_may (a 1) (a 2) v1.2).bind fun v2 => zchk (decide (v2.2.2.2.2 = v1.2.2.2.2)) ((nX11_thrown v2.2).bind fun v3 => if v3 = v1.1 then (if v1.1 = 0 then (if (lg_cmp (v2.2.2.1 72 (0 : Int32).toNatClampNeg) v2.1.toInt64) = 0 then (some v2.2) else (none)) else (some v2.2)) else (none)))
noncomputable def nU_20 (a : Nat → Int32) (g : zS) : Option zS :=
  (nL_may (a 1) (a 2) g).bind fun v1 => zchk (decide (v1.2.2.2.2 = g.2.2.2)) ((nX11_may (a 1) (a 2) v1.2).bind fun v2 => zchk (decide (v2.2.2.2.2 = v1.2.2.2.2)) (some v2.2))
set_option maxHeartbeats 1000000 in
theorem tS_20 {x : zXx} {i : Int32} {a : Nat → Int32} (hl0 : (zl0 x).flags = flags0) (hG : zG x cL_law 7 RL ret) (hPx : zPx x.2.2.2.2.1) (hS : zScr x i a) {A0 B0 C : Nat} (g : zS) {r : zS} (h : nU_20 a g = some r) (kf : zgr r C ∧ zK x 66 1967 [(0, .ref 950), (1, .ref 0), (2, .ref 42), (3, .ref 72), (4, .int i)] [] zD r (A0 + (C / 64 - r.2.2.2 / 64)) (B0 + 2 * (C - r.2.2.2))) : zgr g C ∧ zK x 66 937 [(0, .ref 950), (1, .ref 0), (2, .ref 42), (3, .ref 72), (4, .int i)] [] zD g (A0 + 3 + (C / 64 - g.2.2.2 / 64)) (B0 + 18 + 2 * (C - g.2.2.2)) := by
  unfold nU_20 at h
  refine And.imp_right (fun kk => z_aload_n (pc := 937) hG 1 rfl rfl dL_law_937 kk) ?_
  refine And.imp_right (fun kk => z_aload_n (pc := 938) hG 0 rfl rfl dL_law_938 kk) ?_
  refine And.imp_right (fun kk => z_iload (pc := 939) hG 4 rfl dL_law_939 kk) ?_
  refine And.imp_right (fun kk => z_iconst (pc := 941) hG kc_1 dL_law_941 kk) ?_
  refine And.imp_right (fun kk => z_iadd (pc := 942) hG dL_law_942 kk) ?_
  refine And.imp_right (fun kk => z_scr (pc := 943) hG hS 1 (by decide) rfl dL_law_943 kk) ?_
  refine And.imp_right (fun kk => z_aload_n (pc := 944) hG 0 rfl rfl dL_law_944 kk) ?_
  refine And.imp_right (fun kk => z_iload (pc := 945) hG 4 rfl dL_law_945 kk) ?_
  refine And.imp_right (fun kk => z_iconst (pc := 947) hG kc_2 dL_law_947 kk) ?_
  refine And.imp_right (fun kk => z_iadd (pc := 948) hG dL_law_948 kk) ?_
  refine And.imp_right (fun kk => z_scr (pc := 949) hG hS 2 (by decide) rfl dL_law_949 kk) ?_
  refine And.imp_right (fun kk => z_aload_n (pc := 950) hG 3 rfl rfl dL_law_950 kk) ?_
  replace h := zbind h
  obtain ⟨v1, hv1, h⟩ := h
  replace h := zchk_some h
  obtain ⟨hqv1, h⟩ := h
  refine And.imp_right (fun kk => z_csH (A' := A0 + (C / 64 - g.2.2.2 / 64)) (B' := B0 + 2 * (C - g.2.2.2)) (rest := []) hG hPx [.ref 0, .int (a 1), .int (a 2), .ref 72] (tL_may hl0 (a 1) (a 2) g hv1) zyH_may w1072 w1071 dL_law_951 rfl (Nat.le_of_ble_eq_true rfl) (by omega) (by omega) rfl (Nat.le_of_ble_eq_true rfl) rfl kk) ?_
  refine zpc (of_decide_eq_true hqv1) ?_
  refine And.imp_right (fun kk => z_istore (pc := 954) (ls' := [(5, .int v1.1), (0, .ref 950), (1, .ref 0), (2, .ref 42), (3, .ref 72), (4, .int i)]) hG [0, 1, 2, 3, 4, 5] (by decide) rfl dL_law_954 kk) ?_
  refine And.imp_right (fun kk => z_aload_n (pc := 956) hG 3 rfl rfl dL_law_956 kk) ?_
  refine And.imp_right (fun kk => z_aload_n (pc := 957) hG 1 rfl rfl dL_law_957 kk) ?_
  refine And.imp_right (fun kk => z_iload (pc := 958) hG 5 rfl dL_law_958 kk) ?_
  refine And.imp_right (fun kk => z_iconst (pc := 960) hG kc_1 dL_law_960 kk) ?_
  refine And.imp_right (fun kk => z_iadd (pc := 961) hG dL_law_961 kk) ?_
  refine And.imp_right (fun kk => z_scr (pc := 962) hG hS 1 (by decide) rfl dL_law_962 kk) ?_
  refine And.imp_right (fun kk => z_aload_n (pc := 963) hG 1 rfl rfl dL_law_963 kk) ?_
  refine And.imp_right (fun kk => z_iload (pc := 964) hG 5 rfl dL_law_964 kk) ?_
  refine And.imp_right (fun kk => z_iconst (pc := 966) hG kc_2 dL_law_966 kk) ?_
  refine And.imp_right (fun kk => z_iadd (pc := 967) hG dL_law_967 kk) ?_
  refine And.imp_right (fun kk => z_scr (pc := 968) hG hS 2 (by decide) rfl dL_law_968 kk) ?_
  replace h := zbind h
  obtain ⟨v2, hv2, h⟩ := h
  replace h := zchk_some h
  obtain ⟨hqv2, h⟩ := h
  refine And.imp_right (fun kk => z_cvI (A' := A0 + (C / 64 - v1.2.2.2.2 / 64)) (B' := B0 + 2 * (C - v1.2.2.2.2)) (nc := 0) (ns := 0) (rest := []) hG [.int (a 1), .int (a 2)] zc_X11 DL_42 (tX11_may hl0 (a 1) (a 2) v1.2 hv2) zy_X11_may ⟨w1844, w1845⟩ w1843 dL_law_969 rfl (Nat.le_of_ble_eq_true rfl) (by omega) (by omega) rfl (Nat.le_of_ble_eq_true rfl) rfl kk) ?_
  refine zpc (of_decide_eq_true hqv2) ?_
  refine And.imp_right (fun kk => z_istore (pc := 972) (ls' := [(6, .int v2.1), (5, .int v1.1), (0, .ref 950), (1, .ref 0), (2, .ref 42), (3, .ref 72), (4, .int i)]) hG [0, 1, 2, 3, 4, 5, 6] (by decide) rfl dL_law_972 kk) ?_
  refine And.imp_right (fun kk => z_goto (pc := 974) (tgt := 1967) hG dL_law_974 rfl kk) ?_
  obtain rfl := Option.some.inj h
  refine And.imp_right (fun kk => z_sub (ls' := [(0, .ref 950), (1, .ref 0), (2, .ref 42), (3, .ref 72), (4, .int i)]) [2, 3, 4, 5, 6] rfl kk) ?_
  exact kf
noncomputable def nS_21 (a : Nat → Int32) (g : zS) : Option zS :=
  (nL_likely (a 1) (a 2) g).bind fun v1 => zchk (decide (v1.2.2.2.2 = g.2.2.2)) ((nX11_likely (a 1) (a 2) v1.2).bind fun v2 => zchk (decide (v2.2.2.2.2 = v1.2.2.2.2)) ((nX11_thrown v2.2).bind fun v3 => if v3 = v1.1 then (if v1.1 = 0 then (if (lg_cmp (v2.2.2.1 72 (0 : Int32).toNatClampNeg) v2.1.toInt64) = 0 then (some v2.2) else (none)) else (some v2.2)) else (none)))
noncomputable def nU_21 (a : Nat → Int32) (g : zS) : Option zS :=
  (nL_likely (a 1) (a 2) g).bind fun v1 => zchk (decide (v1.2.2.2.2 = g.2.2.2)) ((nX11_likely (a 1) (a 2) v1.2).bind fun v2 => zchk (decide (v2.2.2.2.2 = v1.2.2.2.2)) (some v2.2))
set_option maxHeartbeats 1000000 in
theorem tS_21 {x : zXx} {i : Int32} {a : Nat → Int32} (hl0 : (zl0 x).flags = flags0) (hG : zG x cL_law 7 RL ret) (hPx : zPx x.2.2.2.2.1) (hS : zScr x i a) {A0 B0 C : Nat} (g : zS) {r : zS} (h : nU_21 a g = some r) (kf : zgr r C ∧ zK x 66 1967 [(0, .ref 950), (1, .ref 0), (2, .ref 42), (3, .ref 72), (4, .int i)] [] zD r (A0 + (C / 64 - r.2.2.2 / 64)) (B0 + 2 * (C - r.2.2.2))) : zgr g C ∧ zK x 66 977 [(0, .ref 950), (1, .ref 0), (2, .ref 42), (3, .ref 72), (4, .int i)] [] zD g (A0 + 3 + (C / 64 - g.2.2.2 / 64)) (B0 + 18 + 2 * (C - g.2.2.2)) := by
  unfold nU_21 at h
  refine And.imp_right (fun kk => z_aload_n (pc := 977) hG 1 rfl rfl dL_law_977 kk) ?_
  refine And.imp_right (fun kk => z_aload_n (pc := 978) hG 0 rfl rfl dL_law_978 kk) ?_
  refine And.imp_right (fun kk => z_iload (pc := 979) hG 4 rfl dL_law_979 kk) ?_
  refine And.imp_right (fun kk => z_iconst (pc := 981) hG kc_1 dL_law_981 kk) ?_
  refine And.imp_right (fun kk => z_iadd (pc := 982) hG dL_law_982 kk) ?_
  refine And.imp_right (fun kk => z_scr (pc := 983) hG hS 1 (by decide) rfl dL_law_983 kk) ?_
  refine And.imp_right (fun kk => z_aload_n (pc := 984) hG 0 rfl rfl dL_law_984 kk) ?_
  refine And.imp_right (fun kk => z_iload (pc := 985) hG 4 rfl dL_law_985 kk) ?_
  refine And.imp_right (fun kk => z_iconst (pc := 987) hG kc_2 dL_law_987 kk) ?_
  refine And.imp_right (fun kk => z_iadd (pc := 988) hG dL_law_988 kk) ?_
  refine And.imp_right (fun kk => z_scr (pc := 989) hG hS 2 (by decide) rfl dL_law_989 kk) ?_
  refine And.imp_right (fun kk => z_aload_n (pc := 990) hG 3 rfl rfl dL_law_990 kk) ?_
  replace h := zbind h
  obtain ⟨v1, hv1, h⟩ := h
  replace h := zchk_some h
  obtain ⟨hqv1, h⟩ := h
  refine And.imp_right (fun kk => z_csH (A' := A0 + (C / 64 - g.2.2.2 / 64)) (B' := B0 + 2 * (C - g.2.2.2)) (rest := []) hG hPx [.ref 0, .int (a 1), .int (a 2), .ref 72] (tL_likely hl0 (a 1) (a 2) g hv1) zyH_likely w1087 w1086 dL_law_991 rfl (Nat.le_of_ble_eq_true rfl) (by omega) (by omega) rfl (Nat.le_of_ble_eq_true rfl) rfl kk) ?_
  refine zpc (of_decide_eq_true hqv1) ?_
  refine And.imp_right (fun kk => z_istore (pc := 994) (ls' := [(5, .int v1.1), (0, .ref 950), (1, .ref 0), (2, .ref 42), (3, .ref 72), (4, .int i)]) hG [0, 1, 2, 3, 4, 5] (by decide) rfl dL_law_994 kk) ?_
  refine And.imp_right (fun kk => z_aload_n (pc := 996) hG 3 rfl rfl dL_law_996 kk) ?_
  refine And.imp_right (fun kk => z_aload_n (pc := 997) hG 1 rfl rfl dL_law_997 kk) ?_
  refine And.imp_right (fun kk => z_iload (pc := 998) hG 5 rfl dL_law_998 kk) ?_
  refine And.imp_right (fun kk => z_iconst (pc := 1000) hG kc_1 dL_law_1000 kk) ?_
  refine And.imp_right (fun kk => z_iadd (pc := 1001) hG dL_law_1001 kk) ?_
  refine And.imp_right (fun kk => z_scr (pc := 1002) hG hS 1 (by decide) rfl dL_law_1002 kk) ?_
  refine And.imp_right (fun kk => z_aload_n (pc := 1003) hG 1 rfl rfl dL_law_1003 kk) ?_
  refine And.imp_right (fun kk => z_iload (pc := 1004) hG 5 rfl dL_law_1004 kk) ?_
  refine And.imp_right (fun kk => z_iconst (pc := 1006) hG kc_2 dL_law_1006 kk) ?_
  refine And.imp_right (fun kk => z_iadd (pc := 1007) hG dL_law_1007 kk) ?_
  refine And.imp_right (fun kk => z_scr (pc := 1008) hG hS 2 (by decide) rfl dL_law_1008 kk) ?_
  replace h := zbind h
  obtain ⟨v2, hv2, h⟩ := h
  replace h := zchk_some h
  obtain ⟨hqv2, h⟩ := h
  refine And.imp_right (fun kk => z_cvI (A' := A0 + (C / 64 - v1.2.2.2.2 / 64)) (B' := B0 + 2 * (C - v1.2.2.2.2)) (nc := 0) (ns := 0) (rest := []) hG [.int (a 1), .int (a 2)] zc_X11 DL_42 (tX11_likely hl0 (a 1) (a 2) v1.2 hv2) zy_X11_likely ⟨w1856, w1857⟩ w1855 dL_law_1009 rfl (Nat.le_of_ble_eq_true rfl) (by omega) (by omega) rfl (Nat.le_of_ble_eq_true rfl) rfl kk) ?_
  refine zpc (of_decide_eq_true hqv2) ?_
  refine And.imp_right (fun kk => z_istore (pc := 1012) (ls' := [(6, .int v2.1), (5, .int v1.1), (0, .ref 950), (1, .ref 0), (2, .ref 42), (3, .ref 72), (4, .int i)]) hG [0, 1, 2, 3, 4, 5, 6] (by decide) rfl dL_law_1012 kk) ?_
  refine And.imp_right (fun kk => z_goto (pc := 1014) (tgt := 1967) hG dL_law_1014 rfl kk) ?_
  obtain rfl := Option.some.inj h
  refine And.imp_right (fun kk => z_sub (ls' := [(0, .ref 950), (1, .ref 0), (2, .ref 42), (3, .ref 72), (4, .int i)]) [2, 3, 4, 5, 6] rfl kk) ?_
  exact kf
noncomputable def nS_22 (a : Nat → Int32) (g : zS) : Option zS :=
  (nL_blame (a 1) g).bind fun v1 => zchk (decide (g.2.2.2 ≤ v1.2.2.2.2)) ((nX11_blame (a 1) v1.2).bind fun v2 => zchk (decide (v2.2.2.2.2 = v1.2.2.2.2)) ((nX11_thrown v2.2).bind fun v3 => if v3 = v1.1 then (if v1.1 = 0 then (if (lg_cmp (v2.2.2.1 72 (0 : Int32).toNatClampNeg) v2.1.toInt64) = 0 then (some v2.2) else (none)) else (some v2.2)) else (none)))
noncomputable def nU_22 (a : Nat → Int32) (g : zS) : Option zS :=
  (nL_blame (a 1) g).bind fun v1 => zchk (decide (g.2.2.2 ≤ v1.2.2.2.2)) ((nX11_blame (a 1) v1.2).bind fun v2 => zchk (decide (v2.2.2.2.2 = v1.2.2.2.2)) (some v2.2))
set_option maxHeartbeats 1000000 in
theorem tS_22 {x : zXx} {i : Int32} {a : Nat → Int32} (hl0 : (zl0 x).flags = flags0) (hG : zG x cL_law 7 RL ret) (hPx : zPx x.2.2.2.2.1) (hS : zScr x i a) {A0 B0 C : Nat} (g : zS) {r : zS} (h : nU_22 a g = some r) (kf : zgr r C ∧ zK x 66 1967 [(0, .ref 950), (1, .ref 0), (2, .ref 42), (3, .ref 72), (4, .int i)] [] zD r (A0 + (C / 64 - r.2.2.2 / 64)) (B0 + 2 * (C - r.2.2.2))) : zgr g C ∧ zK x 66 1017 [(0, .ref 950), (1, .ref 0), (2, .ref 42), (3, .ref 72), (4, .int i)] [] zD g (A0 + 2 + (C / 64 - g.2.2.2 / 64)) (B0 + 12 + 2 * (C - g.2.2.2)) := by
  unfold nU_22 at h
  refine And.imp_right (fun kk => z_aload_n (pc := 1017) hG 1 rfl rfl dL_law_1017 kk) ?_
  refine And.imp_right (fun kk => z_aload_n (pc := 1018) hG 0 rfl rfl dL_law_1018 kk) ?_
  refine And.imp_right (fun kk => z_iload (pc := 1019) hG 4 rfl dL_law_1019 kk) ?_
  refine And.imp_right (fun kk => z_iconst (pc := 1021) hG kc_1 dL_law_1021 kk) ?_
  refine And.imp_right (fun kk => z_iadd (pc := 1022) hG dL_law_1022 kk) ?_
  refine And.imp_right (fun kk => z_scr (pc := 1023) hG hS 1 (by decide) rfl dL_law_1023 kk) ?_
  refine And.imp_right (fun kk => z_aload_n (pc := 1024) hG 3 rfl rfl dL_law_1024 kk) ?_
  replace h := zbind h
  obtain ⟨v1, hv1, h⟩ := h
  replace h := zchk_some h
  obtain ⟨hqv1, h⟩ := h
  replace hqv1 := of_decide_eq_true hqv1
  refine And.elim (fun hb kk => ⟨Nat.le_trans hqv1 hb, z_csH (A' := A0 + (C / 64 - v1.2.2.2.2 / 64)) (B' := B0 + 2 * (C - v1.2.2.2.2)) (rest := []) hG hPx [.ref 0, .int (a 1), .ref 72] (tL_blame hl0 (a 1) g hv1) zyH_blame w1112 w1111 dL_law_1025 rfl (Nat.le_of_ble_eq_true rfl) (by have hb : v1.2.2.2.2 ≤ C := hb; omega) (by have hb : v1.2.2.2.2 ≤ C := hb; omega) rfl (Nat.le_of_ble_eq_true rfl) rfl kk⟩) ?_
  refine And.imp_right (fun kk => z_istore (pc := 1028) (ls' := [(5, .int v1.1), (0, .ref 950), (1, .ref 0), (2, .ref 42), (3, .ref 72), (4, .int i)]) hG [0, 1, 2, 3, 4, 5] (by decide) rfl dL_law_1028 kk) ?_
  refine And.imp_right (fun kk => z_aload_n (pc := 1030) hG 3 rfl rfl dL_law_1030 kk) ?_
  refine And.imp_right (fun kk => z_aload_n (pc := 1031) hG 1 rfl rfl dL_law_1031 kk) ?_
  refine And.imp_right (fun kk => z_iload (pc := 1032) hG 5 rfl dL_law_1032 kk) ?_
  refine And.imp_right (fun kk => z_iconst (pc := 1034) hG kc_1 dL_law_1034 kk) ?_
  refine And.imp_right (fun kk => z_iadd (pc := 1035) hG dL_law_1035 kk) ?_
  refine And.imp_right (fun kk => z_scr (pc := 1036) hG hS 1 (by decide) rfl dL_law_1036 kk) ?_
  replace h := zbind h
  obtain ⟨v2, hv2, h⟩ := h
  replace h := zchk_some h
  obtain ⟨hqv2, h⟩ := h
  refine And.imp_right (fun kk => z_cvI (A' := A0 + (C / 64 - v1.2.2.2.2 / 64)) (B' := B0 + 2 * (C - v1.2.2.2.2)) (nc := 0) (ns := 0) (rest := []) hG [.int (a 1)] zc_X11 DL_42 (tX11_blame hl0 (a 1) v1.2 hv2) zy_X11_blame ⟨w1868, w1869⟩ w1867 dL_law_1037 rfl (Nat.le_of_ble_eq_true rfl) (by omega) (by omega) rfl (Nat.le_of_ble_eq_true rfl) rfl kk) ?_
  refine zpc (of_decide_eq_true hqv2) ?_
  refine And.imp_right (fun kk => z_istore (pc := 1040) (ls' := [(6, .int v2.1), (5, .int v1.1), (0, .ref 950), (1, .ref 0), (2, .ref 42), (3, .ref 72), (4, .int i)]) hG [0, 1, 2, 3, 4, 5, 6] (by decide) rfl dL_law_1040 kk) ?_
  refine And.imp_right (fun kk => z_goto (pc := 1042) (tgt := 1967) hG dL_law_1042 rfl kk) ?_
  obtain rfl := Option.some.inj h
  refine And.imp_right (fun kk => z_sub (ls' := [(0, .ref 950), (1, .ref 0), (2, .ref 42), (3, .ref 72), (4, .int i)]) [2, 3, 4, 5, 6] rfl kk) ?_
  exact kf
noncomputable def nS_23 (a : Nat → Int32) (g : zS) : Option zS :=
  (nL_mends (a 1) (a 2) g).bind fun v1 => zchk (decide (v1.2.2.2.2 = g.2.2.2)) ((nX11_mends (a 1) (a 2) v1.2).bind fun v2 => zchk (decide (v2.2.2.2.2 = v1.2.2.2.2)) ((nX11_thrown v2.2).bind fun v3 => if v3 = v1.1 then (if v1.1 = 0 then (if v2.1 = 0 then (if (lg_cmp (v2.2.2.1 72 (0 : Int32).toNatClampNeg) (0 : Int64)) = 0 then (some v2.2) else (none)) else (if (lg_cmp (v2.2.2.1 72 (0 : Int32).toNatClampNeg) (1 : Int64)) = 0 then (some v2.2) else (none))) else (some v2.2)) else (none)))
noncomputable def nU_23 (a : Nat → Int32) (g : zS) : Option zS :=
  (nL_mends (a 1) (a 2) g).bind fun v1 => zchk (decide (v1.2.2.2.2 = g.2.2.2)) ((nX11_mends (a 1) (a 2) v1.2).bind fun v2 => zchk (decide (v2.2.2.2.2 = v1.2.2.2.2)) (some v2.2))
set_option maxHeartbeats 1000000 in
theorem tS_23 {x : zXx} {i : Int32} {a : Nat → Int32} (hl0 : (zl0 x).flags = flags0) (hG : zG x cL_law 7 RL ret) (hPx : zPx x.2.2.2.2.1) (hS : zScr x i a) {A0 B0 C : Nat} (g : zS) {r : zS} (h : nU_23 a g = some r) (kf : zgr r C ∧ zK x 66 1967 [(0, .ref 950), (1, .ref 0), (2, .ref 42), (3, .ref 72), (4, .int i)] [] zD r (A0 + (C / 64 - r.2.2.2 / 64)) (B0 + 2 * (C - r.2.2.2))) : zgr g C ∧ zK x 66 1045 [(0, .ref 950), (1, .ref 0), (2, .ref 42), (3, .ref 72), (4, .int i)] [] zD g (A0 + 2 + (C / 64 - g.2.2.2 / 64)) (B0 + 12 + 2 * (C - g.2.2.2)) := by
  unfold nU_23 at h
  refine And.imp_right (fun kk => z_aload_n (pc := 1045) hG 1 rfl rfl dL_law_1045 kk) ?_
  refine And.imp_right (fun kk => z_aload_n (pc := 1046) hG 0 rfl rfl dL_law_1046 kk) ?_
  refine And.imp_right (fun kk => z_iload (pc := 1047) hG 4 rfl dL_law_1047 kk) ?_
  refine And.imp_right (fun kk => z_iconst (pc := 1049) hG kc_1 dL_law_1049 kk) ?_
  refine And.imp_right (fun kk => z_iadd (pc := 1050) hG dL_law_1050 kk) ?_
  refine And.imp_right (fun kk => z_scr (pc := 1051) hG hS 1 (by decide) rfl dL_law_1051 kk) ?_
  refine And.imp_right (fun kk => z_aload_n (pc := 1052) hG 0 rfl rfl dL_law_1052 kk) ?_
  refine And.imp_right (fun kk => z_iload (pc := 1053) hG 4 rfl dL_law_1053 kk) ?_
  refine And.imp_right (fun kk => z_iconst (pc := 1055) hG kc_2 dL_law_1055 kk) ?_
  refine And.imp_right (fun kk => z_iadd (pc := 1056) hG dL_law_1056 kk) ?_
  refine And.imp_right (fun kk => z_scr (pc := 1057) hG hS 2 (by decide) rfl dL_law_1057 kk) ?_
  refine And.imp_right (fun kk => z_aload_n (pc := 1058) hG 3 rfl rfl dL_law_1058 kk) ?_
  replace h := zbind h
  obtain ⟨v1, hv1, h⟩ := h
  replace h := zchk_some h
  obtain ⟨hqv1, h⟩ := h
  refine And.imp_right (fun kk => z_csH (A' := A0 + (C / 64 - g.2.2.2 / 64)) (B' := B0 + 2 * (C - g.2.2.2)) (rest := []) hG hPx [.ref 0, .int (a 1), .int (a 2), .ref 72] (tL_mends hl0 (a 1) (a 2) g hv1) zyH_mends w1127 w1126 dL_law_1059 rfl (Nat.le_of_ble_eq_true rfl) (by omega) (by omega) rfl (Nat.le_of_ble_eq_true rfl) rfl kk) ?_
  refine zpc (of_decide_eq_true hqv1) ?_
  refine And.imp_right (fun kk => z_istore (pc := 1062) (ls' := [(5, .int v1.1), (0, .ref 950), (1, .ref 0), (2, .ref 42), (3, .ref 72), (4, .int i)]) hG [0, 1, 2, 3, 4, 5] (by decide) rfl dL_law_1062 kk) ?_
  refine And.imp_right (fun kk => z_aload_n (pc := 1064) hG 3 rfl rfl dL_law_1064 kk) ?_
  refine And.imp_right (fun kk => z_aload_n (pc := 1065) hG 1 rfl rfl dL_law_1065 kk) ?_
  refine And.imp_right (fun kk => z_iload (pc := 1066) hG 5 rfl dL_law_1066 kk) ?_
  refine And.imp_right (fun kk => z_iconst (pc := 1068) hG kc_1 dL_law_1068 kk) ?_
  refine And.imp_right (fun kk => z_iadd (pc := 1069) hG dL_law_1069 kk) ?_
  refine And.imp_right (fun kk => z_scr (pc := 1070) hG hS 1 (by decide) rfl dL_law_1070 kk) ?_
  refine And.imp_right (fun kk => z_aload_n (pc := 1071) hG 1 rfl rfl dL_law_1071 kk) ?_
  refine And.imp_right (fun kk => z_iload (pc := 1072) hG 5 rfl dL_law_1072 kk) ?_
  refine And.imp_right (fun kk => z_iconst (pc := 1074) hG kc_2 dL_law_1074 kk) ?_
  refine And.imp_right (fun kk => z_iadd (pc := 1075) hG dL_law_1075 kk) ?_
  refine And.imp_right (fun kk => z_scr (pc := 1076) hG hS 2 (by decide) rfl dL_law_1076 kk) ?_
  replace h := zbind h
  obtain ⟨v2, hv2, h⟩ := h
  replace h := zchk_some h
  obtain ⟨hqv2, h⟩ := h
  refine And.imp_right (fun kk => z_cvI (A' := A0 + (C / 64 - v1.2.2.2.2 / 64)) (B' := B0 + 2 * (C - v1.2.2.2.2)) (nc := 0) (ns := 0) (rest := []) hG [.int (a 1), .int (a 2)] zc_X11 DL_42 (tX11_mends hl0 (a 1) (a 2) v1.2 hv2) zy_X11_mends ⟨w1872, w1873⟩ w1871 dL_law_1077 rfl (Nat.le_of_ble_eq_true rfl) (by omega) (by omega) rfl (Nat.le_of_ble_eq_true rfl) rfl kk) ?_
  refine zpc (of_decide_eq_true hqv2) ?_
  refine And.imp_right (fun kk => z_istore (pc := 1080) (ls' := [(6, .int v2.1), (5, .int v1.1), (0, .ref 950), (1, .ref 0), (2, .ref 42), (3, .ref 72), (4, .int i)]) hG [0, 1, 2, 3, 4, 5, 6] (by decide) rfl dL_law_1080 kk) ?_
  refine And.imp_right (fun kk => z_goto (pc := 1082) (tgt := 1967) hG dL_law_1082 rfl kk) ?_
  obtain rfl := Option.some.inj h
  refine And.imp_right (fun kk => z_sub (ls' := [(0, .ref 950), (1, .ref 0), (2, .ref 42), (3, .ref 72), (4, .int i)]) [2, 3, 4, 5, 6] rfl kk) ?_
  exact kf
noncomputable def nS_24 (a : Nat → Int32) (g : zS) : Option zS :=
  (nL_ways (a 1) (a 2) g).bind fun v1 => zchk (decide (v1.2.2.2.2 = g.2.2.2)) ((nX11_ways (a 1) (a 2) v1.2).bind fun v2 => zchk (decide (v2.2.2.2.2 = v1.2.2.2.2)) ((nX11_thrown v2.2).bind fun v3 => if v3 = v1.1 then (if v1.1 = 0 then (if (lg_cmp (v2.2.2.1 72 (0 : Int32).toNatClampNeg) v2.1.toInt64) = 0 then (some v2.2) else (none)) else (some v2.2)) else (none)))
noncomputable def nU_24 (a : Nat → Int32) (g : zS) : Option zS :=
  (nL_ways (a 1) (a 2) g).bind fun v1 => zchk (decide (v1.2.2.2.2 = g.2.2.2)) ((nX11_ways (a 1) (a 2) v1.2).bind fun v2 => zchk (decide (v2.2.2.2.2 = v1.2.2.2.2)) (some v2.2))
set_option maxHeartbeats 1000000 in
theorem tS_24 {x : zXx} {i : Int32} {a : Nat → Int32} (hl0 : (zl0 x).flags = flags0) (hG : zG x cL_law 7 RL ret) (hPx : zPx x.2.2.2.2.1) (hS : zScr x i a) {A0 B0 C : Nat} (g : zS) {r : zS} (h : nU_24 a g = some r) (kf : zgr r C ∧ zK x 66 1967 [(0, .ref 950), (1, .ref 0), (2, .ref 42), (3, .ref 72), (4, .int i)] [] zD r (A0 + (C / 64 - r.2.2.2 / 64)) (B0 + 2 * (C - r.2.2.2))) : zgr g C ∧ zK x 66 1085 [(0, .ref 950), (1, .ref 0), (2, .ref 42), (3, .ref 72), (4, .int i)] [] zD g (A0 + 2 + (C / 64 - g.2.2.2 / 64)) (B0 + 12 + 2 * (C - g.2.2.2)) := by
  unfold nU_24 at h
  refine And.imp_right (fun kk => z_aload_n (pc := 1085) hG 1 rfl rfl dL_law_1085 kk) ?_
  refine And.imp_right (fun kk => z_aload_n (pc := 1086) hG 0 rfl rfl dL_law_1086 kk) ?_
  refine And.imp_right (fun kk => z_iload (pc := 1087) hG 4 rfl dL_law_1087 kk) ?_
  refine And.imp_right (fun kk => z_iconst (pc := 1089) hG kc_1 dL_law_1089 kk) ?_
  refine And.imp_right (fun kk => z_iadd (pc := 1090) hG dL_law_1090 kk) ?_
  refine And.imp_right (fun kk => z_scr (pc := 1091) hG hS 1 (by decide) rfl dL_law_1091 kk) ?_
  refine And.imp_right (fun kk => z_aload_n (pc := 1092) hG 0 rfl rfl dL_law_1092 kk) ?_
  refine And.imp_right (fun kk => z_iload (pc := 1093) hG 4 rfl dL_law_1093 kk) ?_
  refine And.imp_right (fun kk => z_iconst (pc := 1095) hG kc_2 dL_law_1095 kk) ?_
  refine And.imp_right (fun kk => z_iadd (pc := 1096) hG dL_law_1096 kk) ?_
  refine And.imp_right (fun kk => z_scr (pc := 1097) hG hS 2 (by decide) rfl dL_law_1097 kk) ?_
  refine And.imp_right (fun kk => z_aload_n (pc := 1098) hG 3 rfl rfl dL_law_1098 kk) ?_
  replace h := zbind h
  obtain ⟨v1, hv1, h⟩ := h
  replace h := zchk_some h
  obtain ⟨hqv1, h⟩ := h
  refine And.imp_right (fun kk => z_csH (A' := A0 + (C / 64 - g.2.2.2 / 64)) (B' := B0 + 2 * (C - g.2.2.2)) (rest := []) hG hPx [.ref 0, .int (a 1), .int (a 2), .ref 72] (tL_ways hl0 (a 1) (a 2) g hv1) zyH_ways w1139 w1138 dL_law_1099 rfl (Nat.le_of_ble_eq_true rfl) (by omega) (by omega) rfl (Nat.le_of_ble_eq_true rfl) rfl kk) ?_
  refine zpc (of_decide_eq_true hqv1) ?_
  refine And.imp_right (fun kk => z_istore (pc := 1102) (ls' := [(5, .int v1.1), (0, .ref 950), (1, .ref 0), (2, .ref 42), (3, .ref 72), (4, .int i)]) hG [0, 1, 2, 3, 4, 5] (by decide) rfl dL_law_1102 kk) ?_
  refine And.imp_right (fun kk => z_aload_n (pc := 1104) hG 3 rfl rfl dL_law_1104 kk) ?_
  refine And.imp_right (fun kk => z_aload_n (pc := 1105) hG 1 rfl rfl dL_law_1105 kk) ?_
  refine And.imp_right (fun kk => z_iload (pc := 1106) hG 5 rfl dL_law_1106 kk) ?_
  refine And.imp_right (fun kk => z_iconst (pc := 1108) hG kc_1 dL_law_1108 kk) ?_
  refine And.imp_right (fun kk => z_iadd (pc := 1109) hG dL_law_1109 kk) ?_
  refine And.imp_right (fun kk => z_scr (pc := 1110) hG hS 1 (by decide) rfl dL_law_1110 kk) ?_
  refine And.imp_right (fun kk => z_aload_n (pc := 1111) hG 1 rfl rfl dL_law_1111 kk) ?_
  refine And.imp_right (fun kk => z_iload (pc := 1112) hG 5 rfl dL_law_1112 kk) ?_
  refine And.imp_right (fun kk => z_iconst (pc := 1114) hG kc_2 dL_law_1114 kk) ?_
  refine And.imp_right (fun kk => z_iadd (pc := 1115) hG dL_law_1115 kk) ?_
  refine And.imp_right (fun kk => z_scr (pc := 1116) hG hS 2 (by decide) rfl dL_law_1116 kk) ?_
  replace h := zbind h
  obtain ⟨v2, hv2, h⟩ := h
  replace h := zchk_some h
  obtain ⟨hqv2, h⟩ := h
  refine And.imp_right (fun kk => z_cvI (A' := A0 + (C / 64 - v1.2.2.2.2 / 64)) (B' := B0 + 2 * (C - v1.2.2.2.2)) (nc := 0) (ns := 0) (rest := []) hG [.int (a 1), .int (a 2)] zc_X11 DL_42 (tX11_ways hl0 (a 1) (a 2) v1.2 hv2) zy_X11_ways ⟨w1888, w1889⟩ w1887 dL_law_1117 rfl (Nat.le_of_ble_eq_true rfl) (by omega) (by omega) rfl (Nat.le_of_ble_eq_true rfl) rfl kk) ?_
  refine zpc (of_decide_eq_true hqv2) ?_
  refine And.imp_right (fun kk => z_istore (pc := 1120) (ls' := [(6, .int v2.1), (5, .int v1.1), (0, .ref 950), (1, .ref 0), (2, .ref 42), (3, .ref 72), (4, .int i)]) hG [0, 1, 2, 3, 4, 5, 6] (by decide) rfl dL_law_1120 kk) ?_
  refine And.imp_right (fun kk => z_goto (pc := 1122) (tgt := 1967) hG dL_law_1122 rfl kk) ?_
  obtain rfl := Option.some.inj h
  refine And.imp_right (fun kk => z_sub (ls' := [(0, .ref 950), (1, .ref 0), (2, .ref 42), (3, .ref 72), (4, .int i)]) [2, 3, 4, 5, 6] rfl kk) ?_
  exact kf
noncomputable def nS_25 (a : Nat → Int32) (g : zS) : Option zS :=
  (nL_least (a 1) (a 2) g).bind fun v1 => zchk (decide (v1.2.2.2.2 = g.2.2.2)) ((nX11_least (a 1) (a 2) v1.2).bind fun v2 => zchk (decide (v2.2.2.2.2 = v1.2.2.2.2)) ((nX11_thrown v2.2).bind fun v3 => if v3 = v1.1 then (if v1.1 = 0 then (if (lg_cmp (v2.2.2.1 72 (0 : Int32).toNatClampNeg) v2.1.toInt64) = 0 then (some v2.2) else (none)) else (some v2.2)) else (none)))
noncomputable def nU_25 (a : Nat → Int32) (g : zS) : Option zS :=
  (nL_least (a 1) (a 2) g).bind fun v1 => zchk (decide (v1.2.2.2.2 = g.2.2.2)) ((nX11_least (a 1) (a 2) v1.2).bind fun v2 => zchk (decide (v2.2.2.2.2 = v1.2.2.2.2)) (some v2.2))
set_option maxHeartbeats 1000000 in
theorem tS_25 {x : zXx} {i : Int32} {a : Nat → Int32} (hl0 : (zl0 x).flags = flags0) (hG : zG x cL_law 7 RL ret) (hPx : zPx x.2.2.2.2.1) (hS : zScr x i a) {A0 B0 C : Nat} (g : zS) {r : zS} (h : nU_25 a g = some r) (kf : zgr r C ∧ zK x 66 1967 [(0, .ref 950), (1, .ref 0), (2, .ref 42), (3, .ref 72), (4, .int i)] [] zD r (A0 + (C / 64 - r.2.2.2 / 64)) (B0 + 2 * (C - r.2.2.2))) : zgr g C ∧ zK x 66 1125 [(0, .ref 950), (1, .ref 0), (2, .ref 42), (3, .ref 72), (4, .int i)] [] zD g (A0 + 2 + (C / 64 - g.2.2.2 / 64)) (B0 + 12 + 2 * (C - g.2.2.2)) := by
  unfold nU_25 at h
  refine And.imp_right (fun kk => z_aload_n (pc := 1125) hG 1 rfl rfl dL_law_1125 kk) ?_
  refine And.imp_right (fun kk => z_aload_n (pc := 1126) hG 0 rfl rfl dL_law_1126 kk) ?_
  refine And.imp_right (fun kk => z_iload (pc := 1127) hG 4 rfl dL_law_1127 kk) ?_
  refine And.imp_right (fun kk => z_iconst (pc := 1129) hG kc_1 dL_law_1129 kk) ?_
  refine And.imp_right (fun kk => z_iadd (pc := 1130) hG dL_law_1130 kk) ?_
  refine And.imp_right (fun kk => z_scr (pc := 1131) hG hS 1 (by decide) rfl dL_law_1131 kk) ?_
  refine And.imp_right (fun kk => z_aload_n (pc := 1132) hG 0 rfl rfl dL_law_1132 kk) ?_
  refine And.imp_right (fun kk => z_iload (pc := 1133) hG 4 rfl dL_law_1133 kk) ?_
  refine And.imp_right (fun kk => z_iconst (pc := 1135) hG kc_2 dL_law_1135 kk) ?_
  refine And.imp_right (fun kk => z_iadd (pc := 1136) hG dL_law_1136 kk) ?_
  refine And.imp_right (fun kk => z_scr (pc := 1137) hG hS 2 (by decide) rfl dL_law_1137 kk) ?_
  refine And.imp_right (fun kk => z_aload_n (pc := 1138) hG 3 rfl rfl dL_law_1138 kk) ?_
  replace h := zbind h
  obtain ⟨v1, hv1, h⟩ := h
  replace h := zchk_some h
  obtain ⟨hqv1, h⟩ := h
  refine And.imp_right (fun kk => z_csH (A' := A0 + (C / 64 - g.2.2.2 / 64)) (B' := B0 + 2 * (C - g.2.2.2)) (rest := []) hG hPx [.ref 0, .int (a 1), .int (a 2), .ref 72] (tL_least hl0 (a 1) (a 2) g hv1) zyH_least w1150 w1149 dL_law_1139 rfl (Nat.le_of_ble_eq_true rfl) (by omega) (by omega) rfl (Nat.le_of_ble_eq_true rfl) rfl kk) ?_
  refine zpc (of_decide_eq_true hqv1) ?_
  refine And.imp_right (fun kk => z_istore (pc := 1142) (ls' := [(5, .int v1.1), (0, .ref 950), (1, .ref 0), (2, .ref 42), (3, .ref 72), (4, .int i)]) hG [0, 1, 2, 3, 4, 5] (by decide) rfl dL_law_1142 kk) ?_
  refine And.imp_right (fun kk => z_aload_n (pc := 1144) hG 3 rfl rfl dL_law_1144 kk) ?_
  refine And.imp_right (fun kk => z_aload_n (pc := 1145) hG 1 rfl rfl dL_law_1145 kk) ?_
  refine And.imp_right (fun kk => z_iload (pc := 1146) hG 5 rfl dL_law_1146 kk) ?_
  refine And.imp_right (fun kk => z_iconst (pc := 1148) hG kc_1 dL_law_1148 kk) ?_
  refine And.imp_right (fun kk => z_iadd (pc := 1149) hG dL_law_1149 kk) ?_
  refine And.imp_right (fun kk => z_scr (pc := 1150) hG hS 1 (by decide) rfl dL_law_1150 kk) ?_
  refine And.imp_right (fun kk => z_aload_n (pc := 1151) hG 1 rfl rfl dL_law_1151 kk) ?_
  refine And.imp_right (fun kk => z_iload (pc := 1152) hG 5 rfl dL_law_1152 kk) ?_
  refine And.imp_right (fun kk => z_iconst (pc := 1154) hG kc_2 dL_law_1154 kk) ?_
  refine And.imp_right (fun kk => z_iadd (pc := 1155) hG dL_law_1155 kk) ?_
  refine And.imp_right (fun kk => z_scr (pc := 1156) hG hS 2 (by decide) rfl dL_law_1156 kk) ?_
  replace h := zbind h
  obtain ⟨v2, hv2, h⟩ := h
  replace h := zchk_some h
  obtain ⟨hqv2, h⟩ := h
  refine And.imp_right (fun kk => z_cvI (A' := A0 + (C / 64 - v1.2.2.2.2 / 64)) (B' := B0 + 2 * (C - v1.2.2.2.2)) (nc := 0) (ns := 0) (rest := []) hG [.int (a 1), .int (a 2)] zc_X11 DL_42 (tX11_least hl0 (a 1) (a 2) v1.2 hv2) zy_X11_least ⟨w1892, w1893⟩ w1891 dL_law_1157 rfl (Nat.le_of_ble_eq_true rfl) (by omega) (by omega) rfl (Nat.le_of_ble_eq_true rfl) rfl kk) ?_
  refine zpc (of_decide_eq_true hqv2) ?_
  refine And.imp_right (fun kk => z_istore (pc := 1160) (ls' := [(6, .int v2.1), (5, .int v1.1), (0, .ref 950), (1, .ref 0), (2, .ref 42), (3, .ref 72), (4, .int i)]) hG [0, 1, 2, 3, 4, 5, 6] (by decide) rfl dL_law_1160 kk) ?_
  refine And.imp_right (fun kk => z_goto (pc := 1162) (tgt := 1967) hG dL_law_1162 rfl kk) ?_
  obtain rfl := Option.some.inj h
  refine And.imp_right (fun kk => z_sub (ls' := [(0, .ref 950), (1, .ref 0), (2, .ref 42), (3, .ref 72), (4, .int i)]) [2, 3, 4, 5, 6] rfl kk) ?_
  exact kf
noncomputable def nS_26 (a : Nat → Int32) (g : zS) : Option zS :=
  (nL_leastOf (a 1) (a 2) g).bind fun v1 => zchk (decide (v1.2.2.2.2 = g.2.2.2)) ((nX11_leastOf (a 1) (a 2) v1.2).bind fun v2 => zchk (decide (v2.2.2.2.2 = v1.2.2.2.2)) ((nX11_thrown v2.2).bind fun v3 => if v3 = v1.1 then (if v1.1 = 0 then (if (lg_cmp (v2.2.2.1 72 (0 : Int32).toNatClampNeg) v2.1.toInt64) = 0 then (some v2.2) else (none)) else (some v2.2)) else (none)))
noncomputable def nU_26 (a : Nat → Int32) (g : zS) : Option zS :=
  (nL_leastOf (a 1) (a 2) g).bind fun v1 => zchk (decide (v1.2.2.2.2 = g.2.2.2)) ((nX11_leastOf (a 1) (a 2) v1.2).bind fun v2 => zchk (decide (v2.2.2.2.2 = v1.2.2.2.2)) (some v2.2))
set_option maxHeartbeats 1000000 in
theorem tS_26 {x : zXx} {i : Int32} {a : Nat → Int32} (hl0 : (zl0 x).flags = flags0) (hG : zG x cL_law 7 RL ret) (hPx : zPx x.2.2.2.2.1) (hS : zScr x i a) {A0 B0 C : Nat} (g : zS) {r : zS} (h : nU_26 a g = some r) (kf : zgr r C ∧ zK x 66 1967 [(0, .ref 950), (1, .ref 0), (2, .ref 42), (3, .ref 72), (4, .int i)] [] zD r (A0 + (C / 64 - r.2.2.2 / 64)) (B0 + 2 * (C - r.2.2.2))) : zgr g C ∧ zK x 66 1165 [(0, .ref 950), (1, .ref 0), (2, .ref 42), (3, .ref 72), (4, .int i)] [] zD g (A0 + 1 + (C / 64 - g.2.2.2 / 64)) (B0 + 6 + 2 * (C - g.2.2.2)) := by
  unfold nU_26 at h
  refine And.imp_right (fun kk => z_aload_n (pc := 1165) hG 1 rfl rfl dL_law_1165 kk) ?_
  refine And.imp_right (fun kk => z_aload_n (pc := 1166) hG 0 rfl rfl dL_law_1166 kk) ?_
  refine And.imp_right (fun kk => z_iload (pc := 1167) hG 4 rfl dL_law_1167 kk) ?_
  refine And.imp_right (fun kk => z_iconst (pc := 1169) hG kc_1 dL_law_1169 kk) ?_
  refine And.imp_right (fun kk => z_iadd (pc := 1170) hG dL_law_1170 kk) ?_
  refine And.imp_right (fun kk => z_scr (pc := 1171) hG hS 1 (by decide) rfl dL_law_1171 kk) ?_
  refine And.imp_right (fun kk => z_aload_n (pc := 1172) hG 0 rfl rfl dL_law_1172 kk) ?_
  refine And.imp_right (fun kk => z_iload (pc := 1173) hG 4 rfl dL_law_1173 kk) ?_
  refine And.imp_right (fun kk => z_iconst (pc := 1175) hG kc_2 dL_law_1175 kk) ?_
  refine And.imp_right (fun kk => z_iadd (pc := 1176) hG dL_law_1176 kk) ?_
  refine And.imp_right (fun kk => z_scr (pc := 1177) hG hS 2 (by decide) rfl dL_law_1177 kk) ?_
  refine And.imp_right (fun kk => z_aload_n (pc := 1178) hG 3 rfl rfl dL_law_1178 kk) ?_
  replace h := zbind h
  obtain ⟨v1, hv1, h⟩ := h
  replace h := zchk_some h
  obtain ⟨hqv1, h⟩ := h
  refine And.imp_right (fun kk => z_csH (A' := A0 + (C / 64 - g.2.2.2 / 64)) (B' := B0 + 2 * (C - g.2.2.2)) (rest := []) hG hPx [.ref 0, .int (a 1), .int (a 2), .ref 72] (tL_leastOf hl0 (a 1) (a 2) g hv1) zyH_leastOf w1164 w1163 dL_law_1179 rfl (Nat.le_of_ble_eq_true rfl) (by omega) (by omega) rfl (Nat.le_of_ble_eq_true rfl) rfl kk) ?_
  refine zpc (of_decide_eq_true hqv1) ?_
  refine And.imp_right (fun kk => z_istore (pc := 1182) (ls' := [(5, .int v1.1), (0, .ref 950), (1, .ref 0), (2, .ref 42), (3, .ref 72), (4, .int i)]) hG [0, 1, 2, 3, 4, 5] (by decide) rfl dL_law_1182 kk) ?_
  refine And.imp_right (fun kk => z_aload_n (pc := 1184) hG 3 rfl rfl dL_law_1184 kk) ?_
  refine And.imp_right (fun kk => z_aload_n (pc := 1185) hG 1 rfl rfl dL_law_1185 kk) ?_
  refine And.imp_right (fun kk => z_iload (pc := 1186) hG 5 rfl dL_law_1186 kk) ?_
  refine And.imp_right (fun kk => z_iconst (pc := 1188) hG kc_1 dL_law_1188 kk) ?_
  refine And.imp_right (fun kk => z_iadd (pc := 1189) hG dL_law_1189 kk) ?_
  refine And.imp_right (fun kk => z_scr (pc := 1190) hG hS 1 (by decide) rfl dL_law_1190 kk) ?_
  refine And.imp_right (fun kk => z_aload_n (pc := 1191) hG 1 rfl rfl dL_law_1191 kk) ?_
  refine And.imp_right (fun kk => z_iload (pc := 1192) hG 5 rfl dL_law_1192 kk) ?_
  refine And.imp_right (fun kk => z_iconst (pc := 1194) hG kc_2 dL_law_1194 kk) ?_
  refine And.imp_right (fun kk => z_iadd (pc := 1195) hG dL_law_1195 kk) ?_
  refine And.imp_right (fun kk => z_scr (pc := 1196) hG hS 2 (by decide) rfl dL_law_1196 kk) ?_
  replace h := zbind h
  obtain ⟨v2, hv2, h⟩ := h
  replace h := zchk_some h
  obtain ⟨hqv2, h⟩ := h
  refine And.imp_right (fun kk => z_cvI (A' := A0 + (C / 64 - v1.2.2.2.2 / 64)) (B' := B0 + 2 * (C - v1.2.2.2.2)) (nc := 0) (ns := 0) (rest := []) hG [.int (a 1), .int (a 2)] zc_X11 DL_42 (tX11_leastOf hl0 (a 1) (a 2) v1.2 hv2) zy_X11_leastOf ⟨w1904, w1905⟩ w1903 dL_law_1197 rfl (Nat.le_of_ble_eq_true rfl) (by omega) (by omega) rfl (Nat.le_of_ble_eq_true rfl) rfl kk) ?_
  refine zpc (of_decide_eq_true hqv2) ?_
  refine And.imp_right (fun kk => z_istore (pc := 1200) (ls' := [(6, .int v2.1), (5, .int v1.1), (0, .ref 950), (1, .ref 0), (2, .ref 42), (3, .ref 72), (4, .int i)]) hG [0, 1, 2, 3, 4, 5, 6] (by decide) rfl dL_law_1200 kk) ?_
  refine And.imp_right (fun kk => z_goto (pc := 1202) (tgt := 1967) hG dL_law_1202 rfl kk) ?_
  obtain rfl := Option.some.inj h
  refine And.imp_right (fun kk => z_sub (ls' := [(0, .ref 950), (1, .ref 0), (2, .ref 42), (3, .ref 72), (4, .int i)]) [2, 3, 4, 5, 6] rfl kk) ?_
  exact kf
noncomputable def nS_27 (a : Nat → Int32) (g : zS) : Option zS :=
  (nL_values (a 1) (a 2) (a 3) g).bind fun v1 => zchk (decide (v1.2.2.2.2 = g.2.2.2)) ((nX11_values (a 1) (a 2) (a 3) v1.2).bind fun v2 => zchk (decide (v2.2.2.2.2 = v1.2.2.2.2)) ((nX11_thrown v2.2).bind fun v3 => if v3 = v1.1 then (if v1.1 = 0 then (if (lg_cmp (v2.2.2.1 72 (0 : Int32).toNatClampNeg) v2.1.toInt64) = 0 then (some v2.2) else (none)) else (some v2.2)) else (none)))
noncomputable def nU_27 (a : Nat → Int32) (g : zS) : Option zS :=
  (nL_values (a 1) (a 2) (a 3) g).bind fun v1 => zchk (decide (v1.2.2.2.2 = g.2.2.2)) ((nX11_values (a 1) (a 2) (a 3) v1.2).bind fun v2 => zchk (decide (v2.2.2.2.2 = v1.2.2.2.2)) (some v2.2))
set_option maxHeartbeats 1000000 in
theorem tS_27 {x : zXx} {i : Int32} {a : Nat → Int32} (hl0 : (zl0 x).flags = flags0) (hG : zG x cL_law 7 RL ret) (hPx : zPx x.2.2.2.2.1) (hS : zScr x i a) {A0 B0 C : Nat} (g : zS) {r : zS} (h : nU_27 a g = some r) (kf : zgr r C ∧ zK x 66 1967 [(0, .ref 950), (1, .ref 0), (2, .ref 42), (3, .ref 72), (4, .int i)] [] zD r (A0 + (C / 64 - r.2.2.2 / 64)) (B0 + 2 * (C - r.2.2.2))) : zgr g C ∧ zK x 66 1205 [(0, .ref 950), (1, .ref 0), (2, .ref 42), (3, .ref 72), (4, .int i)] [] zD g (A0 + 3 + (C / 64 - g.2.2.2 / 64)) (B0 + 18 + 2 * (C - g.2.2.2)) := by
  unfold nU_27 at h
  refine And.imp_right (fun kk => z_aload_n (pc := 1205) hG 1 rfl rfl dL_law_1205 kk) ?_
  refine And.imp_right (fun kk => z_aload_n (pc := 1206) hG 0 rfl rfl dL_law_1206 kk) ?_
  refine And.imp_right (fun kk => z_iload (pc := 1207) hG 4 rfl dL_law_1207 kk) ?_
  refine And.imp_right (fun kk => z_iconst (pc := 1209) hG kc_1 dL_law_1209 kk) ?_
  refine And.imp_right (fun kk => z_iadd (pc := 1210) hG dL_law_1210 kk) ?_
  refine And.imp_right (fun kk => z_scr (pc := 1211) hG hS 1 (by decide) rfl dL_law_1211 kk) ?_
  refine And.imp_right (fun kk => z_aload_n (pc := 1212) hG 0 rfl rfl dL_law_1212 kk) ?_
  refine And.imp_right (fun kk => z_iload (pc := 1213) hG 4 rfl dL_law_1213 kk) ?_
  refine And.imp_right (fun kk => z_iconst (pc := 1215) hG kc_2 dL_law_1215 kk) ?_
  refine And.imp_right (fun kk => z_iadd (pc := 1216) hG dL_law_1216 kk) ?_
  refine And.imp_right (fun kk => z_scr (pc := 1217) hG hS 2 (by decide) rfl dL_law_1217 kk) ?_
  refine And.imp_right (fun kk => z_aload_n (pc := 1218) hG 0 rfl rfl dL_law_1218 kk) ?_
  refine And.imp_right (fun kk => z_iload (pc := 1219) hG 4 rfl dL_law_1219 kk) ?_
  refine And.imp_right (fun kk => z_iconst (pc := 1221) hG kc_3 dL_law_1221 kk) ?_
  refine And.imp_right (fun kk => z_iadd (pc := 1222) hG dL_law_1222 kk) ?_
  refine And.imp_right (fun kk => z_scr (pc := 1223) hG hS 3 (by decide) rfl dL_law_1223 kk) ?_
  refine And.imp_right (fun kk => z_aload_n (pc := 1224) hG 3 rfl rfl dL_law_1224 kk) ?_
  replace h := zbind h
  obtain ⟨v1, hv1, h⟩ := h
  replace h := zchk_some h
  obtain ⟨hqv1, h⟩ := h
  refine And.imp_right (fun kk => z_csH (A' := A0 + (C / 64 - g.2.2.2 / 64)) (B' := B0 + 2 * (C - g.2.2.2)) (rest := []) hG hPx [.ref 0, .int (a 1), .int (a 2), .int (a 3), .ref 72] (tL_values hl0 (a 1) (a 2) (a 3) g hv1) zyH_values w1175 w1174 dL_law_1225 rfl (Nat.le_of_ble_eq_true rfl) (by omega) (by omega) rfl (Nat.le_of_ble_eq_true rfl) rfl kk) ?_
  refine zpc (of_decide_eq_true hqv1) ?_
  refine And.imp_right (fun kk => z_istore (pc := 1228) (ls' := [(5, .int v1.1), (0, .ref 950), (1, .ref 0), (2, .ref 42), (3, .ref 72), (4, .int i)]) hG [0, 1, 2, 3, 4, 5] (by decide) rfl dL_law_1228 kk) ?_
  refine And.imp_right (fun kk => z_aload_n (pc := 1230) hG 3 rfl rfl dL_law_1230 kk) ?_
  refine And.imp_right (fun kk => z_aload_n (pc := 1231) hG 1 rfl rfl dL_law_1231 kk) ?_
  refine And.imp_right (fun kk => z_iload (pc := 1232) hG 5 rfl dL_law_1232 kk) ?_
  refine And.imp_right (fun kk => z_iconst (pc := 1234) hG kc_1 dL_law_1234 kk) ?_
  refine And.imp_right (fun kk => z_iadd (pc := 1235) hG dL_law_1235 kk) ?_
  refine And.imp_right (fun kk => z_scr (pc := 1236) hG hS 1 (by decide) rfl dL_law_1236 kk) ?_
  refine And.imp_right (fun kk => z_aload_n (pc := 1237) hG 1 rfl rfl dL_law_1237 kk) ?_
  refine And.imp_right (fun kk => z_iload (pc := 1238) hG 5 rfl dL_law_1238 kk) ?_
  refine And.imp_right (fun kk => z_iconst (pc := 1240) hG kc_2 dL_law_1240 kk) ?_
  refine And.imp_right (fun kk => z_iadd (pc := 1241) hG dL_law_1241 kk) ?_
  refine And.imp_right (fun kk => z_scr (pc := 1242) hG hS 2 (by decide) rfl dL_law_1242 kk) ?_
  refine And.imp_right (fun kk => z_aload_n (pc := 1243) hG 1 rfl rfl dL_law_1243 kk) ?_
  refine And.imp_right (fun kk => z_iload (pc := 1244) hG 5 rfl dL_law_1244 kk) ?_
  refine And.imp_right (fun kk => z_iconst (pc := 1246) hG kc_3 dL_law_1246 kk) ?_
  refine And.imp_right (fun kk => z_iadd (pc := 1247) hG dL_law_1247 kk) ?_
  refine And.imp_right (fun kk => z_scr (pc := 1248) hG hS 3 (by decide) rfl dL_law_1248 kk) ?_
  replace h := zbind h
  obtain ⟨v2, hv2, h⟩ := h
  replace h := zchk_some h
  obtain ⟨hqv2, h⟩ := h
  refine And.imp_right (fun kk => z_cvI (A' := A0 + (C / 64 - v1.2.2.2.2 / 64)) (B' := B0 + 2 * (C - v1.2.2.2.2)) (nc := 0) (ns := 0) (rest := []) hG [.int (a 1), .int (a 2), .int (a 3)] zc_X11 DL_42 (tX11_values hl0 (a 1) (a 2) (a 3) v1.2 hv2) zy_X11_values ⟨w1908, w1909⟩ w1907 dL_law_1249 rfl (Nat.le_of_ble_eq_true rfl) (by omega) (by omega) rfl (Nat.le_of_ble_eq_true rfl) rfl kk) ?_
  refine zpc (of_decide_eq_true hqv2) ?_
  refine And.imp_right (fun kk => z_istore (pc := 1252) (ls' := [(6, .int v2.1), (5, .int v1.1), (0, .ref 950), (1, .ref 0), (2, .ref 42), (3, .ref 72), (4, .int i)]) hG [0, 1, 2, 3, 4, 5, 6] (by decide) rfl dL_law_1252 kk) ?_
  refine And.imp_right (fun kk => z_goto (pc := 1254) (tgt := 1967) hG dL_law_1254 rfl kk) ?_
  obtain rfl := Option.some.inj h
  refine And.imp_right (fun kk => z_sub (ls' := [(0, .ref 950), (1, .ref 0), (2, .ref 42), (3, .ref 72), (4, .int i)]) [2, 3, 4, 5, 6] rfl kk) ?_
  exact kf
noncomputable def nS_28 (a : Nat → Int32) (g : zS) : Option zS :=
  (nL_forced (a 1) g).bind fun v1 => zchk (decide (v1.2.2.2.2 = g.2.2.2)) ((nX11_forced (a 1) v1.2).bind fun v2 => zchk (decide (v2.2.2.2.2 = v1.2.2.2.2)) ((nX11_thrown v2.2).bind fun v3 => if v3 = v1.1 then (if v1.1 = 0 then (if (lg_cmp (v2.2.2.1 72 (0 : Int32).toNatClampNeg) v2.1.toInt64) = 0 then (some v2.2) else (none)) else (some v2.2)) else (none)))
noncomputable def nU_28 (a : Nat → Int32) (g : zS) : Option zS :=
  (nL_forced (a 1) g).bind fun v1 => zchk (decide (v1.2.2.2.2 = g.2.2.2)) ((nX11_forced (a 1) v1.2).bind fun v2 => zchk (decide (v2.2.2.2.2 = v1.2.2.2.2)) (some v2.2))
set_option maxHeartbeats 1000000 in
theorem tS_28 {x : zXx} {i : Int32} {a : Nat → Int32} (hl0 : (zl0 x).flags = flags0) (hG : zG x cL_law 7 RL ret) (hPx : zPx x.2.2.2.2.1) (hS : zScr x i a) {A0 B0 C : Nat} (g : zS) {r : zS} (h : nU_28 a g = some r) (kf : zgr r C ∧ zK x 66 1967 [(0, .ref 950), (1, .ref 0), (2, .ref 42), (3, .ref 72), (4, .int i)] [] zD r (A0 + (C / 64 - r.2.2.2 / 64)) (B0 + 2 * (C - r.2.2.2))) : zgr g C ∧ zK x 66 1257 [(0, .ref 950), (1, .ref 0), (2, .ref 42), (3, .ref 72), (4, .int i)] [] zD g (A0 + 1 + (C / 64 - g.2.2.2 / 64)) (B0 + 6 + 2 * (C - g.2.2.2)) := by
  unfold nU_28 at h
  refine And.imp_right (fun kk => z_aload_n (pc := 1257) hG 1 rfl rfl dL_law_1257 kk) ?_
  refine And.imp_right (fun kk => z_aload_n (pc := 1258) hG 0 rfl rfl dL_law_1258 kk) ?_
  refine And.imp_right (fun kk => z_iload (pc := 1259) hG 4 rfl dL_law_1259 kk) ?_
  refine And.imp_right (fun kk => z_iconst (pc := 1261) hG kc_1 dL_law_1261 kk) ?_
  refine And.imp_right (fun kk => z_iadd (pc := 1262) hG dL_law_1262 kk) ?_
  refine And.imp_right (fun kk => z_scr (pc := 1263) hG hS 1 (by decide) rfl dL_law_1263 kk) ?_
  refine And.imp_right (fun kk => z_aload_n (pc := 1264) hG 3 rfl rfl dL_law_1264 kk) ?_
  replace h := zbind h
  obtain ⟨v1, hv1, h⟩ := h
  replace h := zchk_some h
  obtain ⟨hqv1, h⟩ := h
  refine And.imp_right (fun kk => z_csH (A' := A0 + (C / 64 - g.2.2.2 / 64)) (B' := B0 + 2 * (C - g.2.2.2)) (rest := []) hG hPx [.ref 0, .int (a 1), .ref 72] (tL_forced hl0 (a 1) g hv1) zyH_forced w1182 w1181 dL_law_1265 rfl (Nat.le_of_ble_eq_true rfl) (by omega) (by omega) rfl (Nat.le_of_ble_eq_true rfl) rfl kk) ?_
  refine zpc (of_decide_eq_true hqv1) ?_
  refine And.imp_right (fun kk => z_istore (pc := 1268) (ls' := [(5, .int v1.1), (0, .ref 950), (1, .ref 0), (2, .ref 42), (3, .ref 72), (4, .int i)]) hG [0, 1, 2, 3, 4, 5] (by decide) rfl dL_law_1268 kk) ?_
  refine And.imp_right (fun kk => z_aload_n (pc := 1270) hG 3 rfl rfl dL_law_1270 kk) ?_
  refine And.imp_right (fun kk => z_aload_n (pc := 1271) hG 1 rfl rfl dL_law_1271 kk) ?_
  refine And.imp_right (fun kk => z_iload (pc := 1272) hG 5 rfl dL_law_1272 kk) ?_
  refine And.imp_right (fun kk => z_iconst (pc := 1274) hG kc_1 dL_law_1274 kk) ?_
  refine And.imp_right (fun kk => z_iadd (pc := 1275) hG dL_law_1275 kk) ?_
  refine And.imp_right (fun kk => z_scr (pc := 1276) hG hS 1 (by decide) rfl dL_law_1276 kk) ?_
  replace h := zbind h
  obtain ⟨v2, hv2, h⟩ := h
  replace h := zchk_some h
  obtain ⟨hqv2, h⟩ := h
  refine And.imp_right (fun kk => z_cvI (A' := A0 + (C / 64 - v1.2.2.2.2 / 64)) (B' := B0 + 2 * (C - v1.2.2.2.2)) (nc := 0) (ns := 0) (rest := []) hG [.int (a 1)] zc_X11 DL_42 (tX11_forced hl0 (a 1) v1.2 hv2) zy_X11_forced ⟨w1916, w1917⟩ w1915 dL_law_1277 rfl (Nat.le_of_ble_eq_true rfl) (by omega) (by omega) rfl (Nat.le_of_ble_eq_true rfl) rfl kk) ?_
  refine zpc (of_decide_eq_true hqv2) ?_
  refine And.imp_right (fun kk => z_istore (pc := 1280) (ls' := [(6, .int v2.1), (5, .int v1.1), (0, .ref 950), (1, .ref 0), (2, .ref 42), (3, .ref 72), (4, .int i)]) hG [0, 1, 2, 3, 4, 5, 6] (by decide) rfl dL_law_1280 kk) ?_
  refine And.imp_right (fun kk => z_goto (pc := 1282) (tgt := 1967) hG dL_law_1282 rfl kk) ?_
  obtain rfl := Option.some.inj h
  refine And.imp_right (fun kk => z_sub (ls' := [(0, .ref 950), (1, .ref 0), (2, .ref 42), (3, .ref 72), (4, .int i)]) [2, 3, 4, 5, 6] rfl kk) ?_
  exact kf
noncomputable def nS_29 (a : Nat → Int32) (g : zS) : Option zS :=
  (nX10_urgent (a 1) g).bind fun v1 => zchk (decide (v1.2.2.2.2 = g.2.2.2)) ((nX11_urgent (a 1) v1.2).bind fun v2 => zchk (decide (v2.2.2.2.2 = v1.2.2.2.2)) (if v1.1 = v2.1 then (some v2.2) else (none)))
noncomputable def nU_29 (a : Nat → Int32) (g : zS) : Option zS :=
  (nX10_urgent (a 1) g).bind fun v1 => zchk (decide (v1.2.2.2.2 = g.2.2.2)) ((nX11_urgent (a 1) v1.2).bind fun v2 => zchk (decide (v2.2.2.2.2 = v1.2.2.2.2)) (some v2.2))
set_option maxHeartbeats 1000000 in
theorem tS_29 {x : zXx} {i : Int32} {a : Nat → Int32} (hl0 : (zl0 x).flags = flags0) (hG : zG x cL_law 7 RL ret) (hPx : zPx x.2.2.2.2.1) (hS : zScr x i a) {A0 B0 C : Nat} (g : zS) {r : zS} (h : nU_29 a g = some r) (kf : zgr r C ∧ zK x 66 1967 [(0, .ref 950), (1, .ref 0), (2, .ref 42), (3, .ref 72), (4, .int i)] [] zD r (A0 + (C / 64 - r.2.2.2 / 64)) (B0 + 2 * (C - r.2.2.2))) : zgr g C ∧ zK x 66 1285 [(0, .ref 950), (1, .ref 0), (2, .ref 42), (3, .ref 72), (4, .int i)] [] zD g (A0 + 0 + (C / 64 - g.2.2.2 / 64)) (B0 + 0 + 2 * (C - g.2.2.2)) := by
  unfold nU_29 at h
  refine And.imp_right (fun kk => z_aload_n (pc := 1285) hG 1 rfl rfl dL_law_1285 kk) ?_
  refine And.imp_right (fun kk => z_aload_n (pc := 1286) hG 0 rfl rfl dL_law_1286 kk) ?_
  refine And.imp_right (fun kk => z_iload (pc := 1287) hG 4 rfl dL_law_1287 kk) ?_
  refine And.imp_right (fun kk => z_iconst (pc := 1289) hG kc_1 dL_law_1289 kk) ?_
  refine And.imp_right (fun kk => z_iadd (pc := 1290) hG dL_law_1290 kk) ?_
  refine And.imp_right (fun kk => z_scr (pc := 1291) hG hS 1 (by decide) rfl dL_law_1291 kk) ?_
  replace h := zbind h
  obtain ⟨v1, hv1, h⟩ := h
  replace h := zchk_some h
  obtain ⟨hqv1, h⟩ := h
  refine And.imp_right (fun kk => z_cvI (A' := A0 + (C / 64 - g.2.2.2 / 64)) (B' := B0 + 2 * (C - g.2.2.2)) (nc := 0) (ns := 0) (rest := []) hG [.int (a 1)] zc_X10 DL_0 (tX10_urgent hl0 (a 1) g hv1) zy_X10_urgent ⟨w416, w417⟩ w415 dL_law_1292 rfl (Nat.le_of_ble_eq_true rfl) (by omega) (by omega) rfl (Nat.le_of_ble_eq_true rfl) rfl kk) ?_
  refine zpc (of_decide_eq_true hqv1) ?_
  refine And.imp_right (fun kk => z_pop (pc := 1295) hG rfl dL_law_1295 kk) ?_
  refine And.imp_right (fun kk => z_aload_n (pc := 1296) hG 2 rfl rfl dL_law_1296 kk) ?_
  refine And.imp_right (fun kk => z_aload_n (pc := 1297) hG 0 rfl rfl dL_law_1297 kk) ?_
  refine And.imp_right (fun kk => z_iload (pc := 1298) hG 4 rfl dL_law_1298 kk) ?_
  refine And.imp_right (fun kk => z_iconst (pc := 1300) hG kc_1 dL_law_1300 kk) ?_
  refine And.imp_right (fun kk => z_iadd (pc := 1301) hG dL_law_1301 kk) ?_
  refine And.imp_right (fun kk => z_scr (pc := 1302) hG hS 1 (by decide) rfl dL_law_1302 kk) ?_
  replace h := zbind h
  obtain ⟨v2, hv2, h⟩ := h
  replace h := zchk_some h
  obtain ⟨hqv2, h⟩ := h
  refine And.imp_right (fun kk => z_cvI (A' := A0 + (C / 64 - v1.2.2.2.2 / 64)) (B' := B0 + 2 * (C - v1.2.2.2.2)) (nc := 0) (ns := 0) (rest := []) hG [.int (a 1)] zc_X11 DL_42 (tX11_urgent hl0 (a 1) v1.2 hv2) zy_X11_urgent ⟨w1920, w1921⟩ w1919 dL_law_1303 rfl (Nat.le_of_ble_eq_true rfl) (by omega) (by omega) rfl (Nat.le_of_ble_eq_true rfl) rfl kk) ?_
  refine zpc (of_decide_eq_true hqv2) ?_
  refine And.imp_right (fun kk => z_pop (pc := 1306) hG rfl dL_law_1306 kk) ?_
  refine And.imp_right (fun kk => z_goto (pc := 1307) (tgt := 1967) hG dL_law_1307 rfl kk) ?_
  obtain rfl := Option.some.inj h
  exact kf
noncomputable def nS_30 (a : Nat → Int32) (g : zS) : Option zS :=
  if (a 3) = 0 then ((nL_donor (a 1) (a 2) (0 : Int32) g).bind fun v1 => zchk (decide (v1.2.2.2.2 = g.2.2.2)) (if (a 3) = 0 then ((nX11_donor (a 1) (a 2) (0 : Int32) v1.2).bind fun v2 => zchk (decide (v2.2.2.2.2 = v1.2.2.2.2)) ((nX11_thrown v2.2).bind fun v3 => if v3 = v1.1 then (if v1.1 = 0 then (if (lg_cmp (v2.2.2.1 72 (0 : Int32).toNatClampNeg) v2.1.toInt64) = 0 then (some v2.2) else (none)) else (some v2.2)) else (none))) else ((nX11_donor (a 1) (a 2) (1 : Int32) v1.2).bind fun v4 => zchk (decide (v4.2.2.2.2 = v1.2.2.2.2)) ((nX11_thrown v4.2).bind fun v5 => if v5 = v1.1 then (if v1.1 = 0 then (if (lg_cmp (v4.2.2.1 72 (0 : Int32).toNatClampNeg) v4.1.toInt64) = 0 then (some v4.2) else (none)) else (some v4.2)) else (none))))) else ((nL_donor (a 1) (a 2) (1 : Int32) g).bind fun v6 => zchk (decide (v6.2.2.2.2 = g.2.2.2)) (if (a 3) = 0 then ((nX11_donor (a 1) (a 2) (0 : Int32) v6.2).bind fun v7 => zchk (decide (v7.2.2.2.2 = v6.2.2.2.2)) ((nX11_thrown v7.2).bind fun v8 => if v8 = v6.1 then (if v6.1 = 0 then (if (lg_cmp (v7.2.2.1 72 (0 : Int32).toNatClampNeg) v7.1.toInt64) = 0 then (some v7.2) else (none)) else (some v7.2)) else (none))) else ((nX11_donor (a 1) (a 2) (1 : Int32) v6.2).bind fun v9 => zchk (decide (v9.2.2.2.2 = v6.2.2.2.2)) ((nX11_thrown v9.2).bind fun v10 => if v10 = v6.1 then (if v6.1 = 0 then (if (lg_cmp (v9.2.2.1 72 (0 : Int32).toNatClampNeg) v9.1.toInt64) = 0 then (some v9.2) else (none)) else (some v9.2)) else (none)))))
noncomputable def nU_30 (a : Nat → Int32) (g : zS) : Option zS :=
  if (a 3) = 0 then ((nL_donor (a 1) (a 2) (0 : Int32) g).bind fun v1 => zchk (decide (v1.2.2.2.2 = g.2.2.2)) (if (a 3) = 0 then ((nX11_donor (a 1) (a 2) (0 : Int32) v1.2).bind fun v2 => zchk (decide (v2.2.2.2.2 = v1.2.2.2.2)) (some v2.2)) else ((nX11_donor (a 1) (a 2) (1 : Int32) v1.2).bind fun v3 => zchk (decide (v3.2.2.2.2 = v1.2.2.2.2)) (some v3.2)))) else ((nL_donor (a 1) (a 2) (1 : Int32) g).bind fun v4 => zchk (decide (v4.2.2.2.2 = g.2.2.2)) (if (a 3) = 0 then ((nX11_donor (a 1) (a 2) (0 : Int32) v4.2).bind fun v5 => zchk (decide (v5.2.2.2.2 = v4.2.2.2.2)) (some v5.2)) else ((nX11_donor (a 1) (a 2) (1 : Int32) v4.2).bind fun v6 => zchk (decide (v6.2.2.2.2 = v4.2.2.2.2)) (some v6.2))))
set_option maxHeartbeats 1000000 in
theorem tS_30 {x : zXx} {i : Int32} {a : Nat → Int32} (hl0 : (zl0 x).flags = flags0) (hG : zG x cL_law 7 RL ret) (hPx : zPx x.2.2.2.2.1) (hS : zScr x i a) {A0 B0 C : Nat} (g : zS) {r : zS} (h : nU_30 a g = some r) (kf : zgr r C ∧ zK x 66 1967 [(0, .ref 950), (1, .ref 0), (2, .ref 42), (3, .ref 72), (4, .int i)] [] zD r (A0 + (C / 64 - r.2.2.2 / 64)) (B0 + 2 * (C - r.2.2.2))) : zgr g C ∧ zK x 66 1310 [(0, .ref 950), (1, .ref 0), (2, .ref 42), (3, .ref 72), (4, .int i)] [] zD g (A0 + 1 + (C / 64 - g.2.2.2 / 64)) (B0 + 6 + 2 * (C - g.2.2.2)) := by
  unfold nU_30 at h
  refine And.imp_right (fun kk => z_aload_n (pc := 1310) hG 1 rfl rfl dL_law_1310 kk) ?_
  refine And.imp_right (fun kk => z_aload_n (pc := 1311) hG 0 rfl rfl dL_law_1311 kk) ?_
  refine And.imp_right (fun kk => z_iload (pc := 1312) hG 4 rfl dL_law_1312 kk) ?_
  refine And.imp_right (fun kk => z_iconst (pc := 1314) hG kc_1 dL_law_1314 kk) ?_
  refine And.imp_right (fun kk => z_iadd (pc := 1315) hG dL_law_1315 kk) ?_
  refine And.imp_right (fun kk => z_scr (pc := 1316) hG hS 1 (by decide) rfl dL_law_1316 kk) ?_
  refine And.imp_right (fun kk => z_aload_n (pc := 1317) hG 0 rfl rfl dL_law_1317 kk) ?_
  refine And.imp_right (fun kk => z_iload (pc := 1318) hG 4 rfl dL_law_1318 kk) ?_
  refine And.imp_right (fun kk => z_iconst (pc := 1320) hG kc_2 dL_law_1320 kk) ?_
  refine And.imp_right (fun kk => z_iadd (pc := 1321) hG dL_law_1321 kk) ?_
  refine And.imp_right (fun kk => z_scr (pc := 1322) hG hS 2 (by decide) rfl dL_law_1322 kk) ?_
  refine And.imp_right (fun kk => z_aload_n (pc := 1323) hG 0 rfl rfl dL_law_1323 kk) ?_
  refine And.imp_right (fun kk => z_iload (pc := 1324) hG 4 rfl dL_law_1324 kk) ?_
  refine And.imp_right (fun kk => z_iconst (pc := 1326) hG kc_3 dL_law_1326 kk) ?_
  refine And.imp_right (fun kk => z_iadd (pc := 1327) hG dL_law_1327 kk) ?_
  refine And.imp_right (fun kk => z_scr (pc := 1328) hG hS 3 (by decide) rfl dL_law_1328 kk) ?_
  refine zbr (c := (a 3) = 0) (fun hc => ?_) (fun hc => ?_) (fun k1 k2 => z_if_eq (pc := 1329) (tgt := 1336) hG dL_law_1329 rfl k1 k2)
  · replace h := zif_t hc h
    refine And.imp_right (fun kk => z_iconst (pc := 1336) hG kc_0 dL_law_1336 kk) ?_
    refine And.imp_right (fun kk => z_aload_n (pc := 1337) hG 3 rfl rfl dL_law_1337 kk) ?_
    replace h := zbind h
    obtain ⟨v1, hv1, h⟩ := h
    replace h := zchk_some h
    obtain ⟨hqv1, h⟩ := h
    refine And.imp_right (fun kk => z_csH (A' := A0 + (C / 64 - g.2.2.2 / 64)) (B' := B0 + 2 * (C - g.2.2.2)) (rest := []) hG hPx [.ref 0, .int (a 1), .int (a 2), .int (0 : Int32), .ref 72] (tL_donor hl0 (a 1) (a 2) (0 : Int32) g hv1) zyH_donor w1194 w1193 dL_law_1338 rfl (Nat.le_of_ble_eq_true rfl) (by omega) (by omega) rfl (Nat.le_of_ble_eq_true rfl) rfl kk) ?_
    refine zpc (of_decide_eq_true hqv1) ?_
    refine And.imp_right (fun kk => z_istore (pc := 1341) (ls' := [(5, .int v1.1), (0, .ref 950), (1, .ref 0), (2, .ref 42), (3, .ref 72), (4, .int i)]) hG [0, 1, 2, 3, 4, 5] (by decide) rfl dL_law_1341 kk) ?_
    refine And.imp_right (fun kk => z_aload_n (pc := 1343) hG 3 rfl rfl dL_law_1343 kk) ?_
    refine And.imp_right (fun kk => z_aload_n (pc := 1344) hG 1 rfl rfl dL_law_1344 kk) ?_
    refine And.imp_right (fun kk => z_iload (pc := 1345) hG 5 rfl dL_law_1345 kk) ?_
    refine And.imp_right (fun kk => z_iconst (pc := 1347) hG kc_1 dL_law_1347 kk) ?_
    refine And.imp_right (fun kk => z_iadd (pc := 1348) hG dL_law_1348 kk) ?_
    refine And.imp_right (fun kk => z_scr (pc := 1349) hG hS 1 (by decide) rfl dL_law_1349 kk) ?_
    refine And.imp_right (fun kk => z_aload_n (pc := 1350) hG 1 rfl rfl dL_law_1350 kk) ?_
    refine And.imp_right (fun kk => z_iload (pc := 1351) hG 5 rfl dL_law_1351 kk) ?_
    refine And.imp_right (fun kk => z_iconst (pc := 1353) hG kc_2 dL_law_1353 kk) ?_
    refine And.imp_right (fun kk => z_iadd (pc := 1354) hG dL_law_1354 kk) ?_
    refine And.imp_right (fun kk => z_scr (pc := 1355) hG hS 2 (by decide) rfl dL_law_1355 kk) ?_
    refine And.imp_right (fun kk => z_aload_n (pc := 1356) hG 1 rfl rfl dL_law_1356 kk) ?_
    refine And.imp_right (fun kk => z_iload (pc := 1357) hG 5 rfl dL_law_1357 kk) ?_
    refine And.imp_right (fun kk => z_iconst (pc := 1359) hG kc_3 dL_law_1359 kk) ?_
    refine And.imp_right (fun kk => z_iadd (pc := 1360) hG dL_law_1360 kk) ?_
    refine And.imp_right (fun kk => z_scr (pc := 1361) hG hS 3 (by decide) rfl dL_law_1361 kk) ?_
    refine zbr (c := (a 3) = 0) (fun hc => ?_) (fun hc => ?_) (fun k1 k2 => z_if_eq (pc := 1362) (tgt := 1369) hG dL_law_1362 rfl k1 k2)
    · replace h := zif_t hc h
      refine And.imp_right (fun kk => z_iconst (pc := 1369) hG kc_0 dL_law_1369 kk) ?_
      replace h := zbind h
      obtain ⟨v2, hv2, h⟩ := h
      replace h := zchk_some h
      obtain ⟨hqv2, h⟩ := h
      refine And.imp_right (fun kk => z_cvI (A' := A0 + (C / 64 - v1.2.2.2.2 / 64)) (B' := B0 + 2 * (C - v1.2.2.2.2)) (nc := 0) (ns := 0) (rest := []) hG [.int (a 1), .int (a 2), .int (0 : Int32)] zc_X11 DL_42 (tX11_donor hl0 (a 1) (a 2) (0 : Int32) v1.2 hv2) zy_X11_donor ⟨w1937, w1938⟩ w1936 dL_law_1370 rfl (Nat.le_of_ble_eq_true rfl) (by omega) (by omega) rfl (Nat.le_of_ble_eq_true rfl) rfl kk) ?_
      refine zpc (of_decide_eq_true hqv2) ?_
      refine And.imp_right (fun kk => z_istore (pc := 1373) (ls' := [(6, .int v2.1), (5, .int v1.1), (0, .ref 950), (1, .ref 0), (2, .ref 42), (3, .ref 72), (4, .int i)]) hG [0, 1, 2, 3, 4, 5, 6] (by decide) rfl dL_law_1373 kk) ?_
      refine And.imp_right (fun kk => z_goto (pc := 1375) (tgt := 1967) hG dL_law_1375 rfl kk) ?_
      obtain rfl := Option.some.inj h
      refine And.imp_right (fun kk => z_sub (ls' := [(0, .ref 950), (1, .ref 0), (2, .ref 42), (3, .ref 72), (4, .int i)]) [2, 3, 4, 5, 6] rfl kk) ?_
      exact kf
    · replace h := zif_f hc h
      refine And.imp_right (fun kk => z_iconst (pc := 1365) hG kc_1 dL_law_1365 kk) ?_
      refine And.imp_right (fun kk => z_goto (pc := 1366) (tgt := 1370) hG dL_law_1366 rfl kk) ?_
      replace h := zbind h
      obtain ⟨v3, hv3, h⟩ := h
      replace h := zchk_some h
      obtain ⟨hqv3, h⟩ := h
      refine And.imp_right (fun kk => z_cvI (A' := A0 + (C / 64 - v1.2.2.2.2 / 64)) (B' := B0 + 2 * (C - v1.2.2.2.2)) (nc := 0) (ns := 0) (rest := []) hG [.int (a 1), .int (a 2), .int (1 : Int32)] zc_X11 DL_42 (tX11_donor hl0 (a 1) (a 2) (1 : Int32) v1.2 hv3) zy_X11_donor ⟨w1937, w1938⟩ w1936 dL_law_1370 rfl (Nat.le_of_ble_eq_true rfl) (by omega) (by omega) rfl (Nat.le_of_ble_eq_true rfl) rfl kk) ?_
      refine zpc (of_decide_eq_true hqv3) ?_
      refine And.imp_right (fun kk => z_istore (pc := 1373) (ls' := [(6, .int v3.1), (5, .int v1.1), (0, .ref 950), (1, .ref 0), (2, .ref 42), (3, .ref 72), (4, .int i)]) hG [0, 1, 2, 3, 4, 5, 6] (by decide) rfl dL_law_1373 kk) ?_
      refine And.imp_right (fun kk => z_goto (pc := 1375) (tgt := 1967) hG dL_law_1375 rfl kk) ?_
      obtain rfl := Option.some.inj h
      refine And.imp_right (fun kk => z_sub (ls' := [(0, .ref 950), (1, .ref 0), (2, .ref 42), (3, .ref 72), (4, .int i)]) [2, 3, 4, 5, 6] rfl kk) ?_
      exact kf
  · replace h := zif_f hc h
    refine And.imp_right (fun kk => z_iconst (pc := 1332) hG kc_1 dL_law_1332 kk) ?_
    refine And.imp_right (fun kk => z_goto (pc := 1333) (tgt := 1337) hG dL_law_1333 rfl kk) ?_
    refine And.imp_right (fun kk => z_aload_n (pc := 1337) hG 3 rfl rfl dL_law_1337 kk) ?_
    replace h := zbind h
    obtain ⟨v4, hv4, h⟩ := h
    replace h := zchk_some h
    obtain ⟨hqv4, h⟩ := h
    refine And.imp_right (fun kk => z_csH (A' := A0 + (C / 64 - g.2.2.2 / 64)) (B' := B0 + 2 * (C - g.2.2.2)) (rest := []) hG hPx [.ref 0, .int (a 1), .int (a 2), .int (1 : Int32), .ref 72] (tL_donor hl0 (a 1) (a 2) (1 : Int32) g hv4) zyH_donor w1194 w1193 dL_law_1338 rfl (Nat.le_of_ble_eq_true rfl) (by omega) (by omega) rfl (Nat.le_of_ble_eq_true rfl) rfl kk) ?_
    refine zpc (of_decide_eq_true hqv4) ?_
    refine And.imp_right (fun kk => z_istore (pc := 1341) (ls' := [(5, .int v4.1), (0, .ref 950), (1, .ref 0), (2, .ref 42), (3, .ref 72), (4, .int i)]) hG [0, 1, 2, 3, 4, 5] (by decide) rfl dL_law_1341 kk) ?_
    refine And.imp_right (fun kk => z_aload_n (pc := 1343) hG 3 rfl rfl dL_law_1343 kk) ?_
    refine And.imp_right (fun kk => z_aload_n (pc := 1344) hG 1 rfl rfl dL_law_1344 kk) ?_
    refine And.imp_right (fun kk => z_iload (pc := 1345) hG 5 rfl dL_law_1345 kk) ?_
    refine And.imp_right (fun kk => z_iconst (pc := 1347) hG kc_1 dL_law_1347 kk) ?_
    refine And.imp_right (fun kk => z_iadd (pc := 1348) hG dL_law_1348 kk) ?_
    refine And.imp_right (fun kk => z_scr (pc := 1349) hG hS 1 (by decide) rfl dL_law_1349 kk) ?_
    refine And.imp_right (fun kk => z_aload_n (pc := 1350) hG 1 rfl rfl dL_law_1350 kk) ?_
    refine And.imp_right (fun kk => z_iload (pc := 1351) hG 5 rfl dL_law_1351 kk) ?_
    refine And.imp_right (fun kk => z_iconst (pc := 1353) hG kc_2 dL_law_1353 kk) ?_
    refine And.imp_right (fun kk => z_iadd (pc := 1354) hG dL_law_1354 kk) ?_
    refine And.imp_right (fun kk => z_scr (pc := 1355) hG hS 2 (by decide) rfl dL_law_1355 kk) ?_
    refine And.imp_right (fun kk => z_aload_n (pc := 1356) hG 1 rfl rfl dL_law_1356 kk) ?_
    refine And.imp_right (fun kk => z_iload (pc := 1357) hG 5 rfl dL_law_1357 kk) ?_
    refine And.imp_right (fun kk => z_iconst (pc := 1359) hG kc_3 dL_law_1359 kk) ?_
    refine And.imp_right (fun kk => z_iadd (pc := 1360) hG dL_law_1360 kk) ?_
    refine And.imp_right (fun kk => z_scr (pc := 1361) hG hS 3 (by decide) rfl dL_law_1361 kk) ?_
    refine zbr (c := (a 3) = 0) (fun hc => ?_) (fun hc => ?_) (fun k1 k2 => z_if_eq (pc := 1362) (tgt := 1369) hG dL_law_1362 rfl k1 k2)
    · replace h := zif_t hc h
      refine And.imp_right (fun kk => z_iconst (pc := 1369) hG kc_0 dL_law_1369 kk) ?_
      replace h := zbind h
      obtain ⟨v5, hv5, h⟩ := h
      replace h := zchk_some h
      obtain ⟨hqv5, h⟩ := h
      refine And.imp_right (fun kk => z_cvI (A' := A0 + (C / 64 - v4.2.2.2.2 / 64)) (B' := B0 + 2 * (C - v4.2.2.2.2)) (nc := 0) (ns := 0) (rest := []) hG [.int (a 1), .int (a 2), .int (0 : Int32)] zc_X11 DL_42 (tX11_donor hl0 (a 1) (a 2) (0 : Int32) v4.2 hv5) zy_X11_donor ⟨w1937, w1938⟩ w1936 dL_law_1370 rfl (Nat.le_of_ble_eq_true rfl) (by omega) (by omega) rfl (Nat.le_of_ble_eq_true rfl) rfl kk) ?_
      refine zpc (of_decide_eq_true hqv5) ?_
      refine And.imp_right (fun kk => z_istore (pc := 1373) (ls' := [(6, .int v5.1), (5, .int v4.1), (0, .ref 950), (1, .ref 0), (2, .ref 42), (3, .ref 72), (4, .int i)]) hG [0, 1, 2, 3, 4, 5, 6] (by decide) rfl dL_law_1373 kk) ?_
      refine And.imp_right (fun kk => z_goto (pc := 1375) (tgt := 1967) hG dL_law_1375 rfl kk) ?_
      obtain rfl := Option.some.inj h
      refine And.imp_right (fun kk => z_sub (ls' := [(0, .ref 950), (1, .ref 0), (2, .ref 42), (3, .ref 72), (4, .int i)]) [2, 3, 4, 5, 6] rfl kk) ?_
      exact kf
    · replace h := zif_f hc h
      refine And.imp_right (fun kk => z_iconst (pc := 1365) hG kc_1 dL_law_1365 kk) ?_
      refine And.imp_right (fun kk => z_goto (pc := 1366) (tgt := 1370) hG dL_law_1366 rfl kk) ?_
      replace h := zbind h
      obtain ⟨v6, hv6, h⟩ := h
      replace h := zchk_some h
      obtain ⟨hqv6, h⟩ := h
      refine And.imp_right (fun kk => z_cvI (A' := A0 + (C / 64 - v4.2.2.2.2 / 64)) (B' := B0 + 2 * (C - v4.2.2.2.2)) (nc := 0) (ns := 0) (rest := []) hG [.int (a 1), .int (a 2), .int (1 : Int32)] zc_X11 DL_42 (tX11_donor hl0 (a 1) (a 2) (1 : Int32) v4.2 hv6) zy_X11_donor ⟨w1937, w1938⟩ w1936 dL_law_1370 rfl (Nat.le_of_ble_eq_true rfl) (by omega) (by omega) rfl (Nat.le_of_ble_eq_true rfl) rfl kk) ?_
      refine zpc (of_decide_eq_true hqv6) ?_
      refine And.imp_right (fun kk => z_istore (pc := 1373) (ls' := [(6, .int v6.1), (5, .int v4.1), (0, .ref 950), (1, .ref 0), (2, .ref 42), (3, .ref 72), (4, .int i)]) hG [0, 1, 2, 3, 4, 5, 6] (by decide) rfl dL_law_1373 kk) ?_
      refine And.imp_right (fun kk => z_goto (pc := 1375) (tgt := 1967) hG dL_law_1375 rfl kk) ?_
      obtain rfl := Option.some.inj h
      refine And.imp_right (fun kk => z_sub (ls' := [(0, .ref 950), (1, .ref 0), (2, .ref 42), (3, .ref 72), (4, .int i)]) [2, 3, 4, 5, 6] rfl kk) ?_
      exact kf
noncomputable def nS_31 (a : Nat → Int32) (g : zS) : Option zS :=
  (nL_would (a 1) (a 2) g).bind fun v1 => zchk (decide (v1.2.2.2.2 = g.2.2.2)) ((nX11_would (a 1) (a 2) v1.2).bind fun v2 => zchk (decide (v2.2.2.2.2 = v1.2.2.2.2)) ((nX11_thrown v2.2).bind fun v3 => if v3 = v1.1 then (if v1.1 = 0 then (if (lg_cmp (v2.2.2.1 72 (0 : Int32).toNatClampNeg) v2.1.toInt64) = 0 then (some v2.2) else (none)) else (some v2.2)) else (none)))
noncomputable def nU_31 (a : Nat → Int32) (g : zS) : Option zS :=
  (nL_would (a 1) (a 2) g).bind fun v1 => zchk (decide (v1.2.2.2.2 = g.2.2.2)) ((nX11_would (a 1) (a 2) v1.2).bind fun v2 => zchk (decide (v2.2.2.2.2 = v1.2.2.2.2)) (some v2.2))
set_option maxHeartbeats 1000000 in
theorem tS_31 {x : zXx} {i : Int32} {a : Nat → Int32} (hl0 : (zl0 x).flags = flags0) (hG : zG x cL_law 7 RL ret) (hPx : zPx x.2.2.2.2.1) (hS : zScr x i a) {A0 B0 C : Nat} (g : zS) {r : zS} (h : nU_31 a g = some r) (kf : zgr r C ∧ zK x 66 1967 [(0, .ref 950), (1, .ref 0), (2, .ref 42), (3, .ref 72), (4, .int i)] [] zD r (A0 + (C / 64 - r.2.2.2 / 64)) (B0 + 2 * (C - r.2.2.2))) : zgr g C ∧ zK x 66 1378 [(0, .ref 950), (1, .ref 0), (2, .ref 42), (3, .ref 72), (4, .int i)] [] zD g (A0 + 2 + (C / 64 - g.2.2.2 / 64)) (B0 + 12 + 2 * (C - g.2.2.2)) := by
  unfold nU_31 at h
  refine And.imp_right (fun kk => z_aload_n (pc := 1378) hG 1 rfl rfl dL_law_1378 kk) ?_
  refine And.imp_right (fun kk => z_aload_n (pc := 1379) hG 0 rfl rfl dL_law_1379 kk) ?_
  refine And.imp_right (fun kk => z_iload (pc := 1380) hG 4 rfl dL_law_1380 kk) ?_
  refine And.imp_right (fun kk => z_iconst (pc := 1382) hG kc_1 dL_law_1382 kk) ?_
  refine And.imp_right (fun kk => z_iadd (pc := 1383) hG dL_law_1383 kk) ?_
  refine And.imp_right (fun kk => z_scr (pc := 1384) hG hS 1 (by decide) rfl dL_law_1384 kk) ?_
  refine And.imp_right (fun kk => z_aload_n (pc := 1385) hG 0 rfl rfl dL_law_1385 kk) ?_
  refine And.imp_right (fun kk => z_iload (pc := 1386) hG 4 rfl dL_law_1386 kk) ?_
  refine And.imp_right (fun kk => z_iconst (pc := 1388) hG kc_2 dL_law_1388 kk) ?_
  refine And.imp_right (fun kk => z_iadd (pc := 1389) hG dL_law_1389 kk) ?_
  refine And.imp_right (fun kk => z_scr (pc := 1390) hG hS 2 (by decide) rfl dL_law_1390 kk) ?_
  refine And.imp_right (fun kk => z_aload_n (pc := 1391) hG 3 rfl rfl dL_law_1391 kk) ?_
  replace h := zbind h
  obtain ⟨v1, hv1, h⟩ := h
  replace h := zchk_some h
  obtain ⟨hqv1, h⟩ := h
  refine And.imp_right (fun kk => z_csH (A' := A0 + (C / 64 - g.2.2.2 / 64)) (B' := B0 + 2 * (C - g.2.2.2)) (rest := []) hG hPx [.ref 0, .int (a 1), .int (a 2), .ref 72] (tL_would hl0 (a 1) (a 2) g hv1) zyH_would w1246 w1245 dL_law_1392 rfl (Nat.le_of_ble_eq_true rfl) (by omega) (by omega) rfl (Nat.le_of_ble_eq_true rfl) rfl kk) ?_
  refine zpc (of_decide_eq_true hqv1) ?_
  refine And.imp_right (fun kk => z_istore (pc := 1395) (ls' := [(5, .int v1.1), (0, .ref 950), (1, .ref 0), (2, .ref 42), (3, .ref 72), (4, .int i)]) hG [0, 1, 2, 3, 4, 5] (by decide) rfl dL_law_1395 kk) ?_
  refine And.imp_right (fun kk => z_aload_n (pc := 1397) hG 3 rfl rfl dL_law_1397 kk) ?_
  refine And.imp_right (fun kk => z_aload_n (pc := 1398) hG 1 rfl rfl dL_law_1398 kk) ?_
  refine And.imp_right (fun kk => z_iload (pc := 1399) hG 5 rfl dL_law_1399 kk) ?_
  refine And.imp_right (fun kk => z_iconst (pc := 1401) hG kc_1 dL_law_1401 kk) ?_
  refine And.imp_right (fun kk => z_iadd (pc := 1402) hG dL_law_1402 kk) ?_
  refine And.imp_right (fun kk => z_scr (pc := 1403) hG hS 1 (by decide) rfl dL_law_1403 kk) ?_
  refine And.imp_right (fun kk => z_aload_n (pc := 1404) hG 1 rfl rfl dL_law_1404 kk) ?_
  refine And.imp_right (fun kk => z_iload (pc := 1405) hG 5 rfl dL_law_1405 kk) ?_
  refine And.imp_right (fun kk => z_iconst (pc := 1407) hG kc_2 dL_law_1407 kk) ?_
  refine And.imp_right (fun kk => z_iadd (pc := 1408) hG dL_law_1408 kk) ?_
  refine And.imp_right (fun kk => z_scr (pc := 1409) hG hS 2 (by decide) rfl dL_law_1409 kk) ?_
  replace h := zbind h
  obtain ⟨v2, hv2, h⟩ := h
  replace h := zchk_some h
  obtain ⟨hqv2, h⟩ := h
  refine And.imp_right (fun kk => z_cvI (A' := A0 + (C / 64 - v1.2.2.2.2 / 64)) (B' := B0 + 2 * (C - v1.2.2.2.2)) (nc := 0) (ns := 0) (rest := []) hG [.int (a 1), .int (a 2)] zc_X11 DL_42 (tX11_would hl0 (a 1) (a 2) v1.2 hv2) zy_X11_would ⟨w1953, w1954⟩ w1952 dL_law_1410 rfl (Nat.le_of_ble_eq_true rfl) (by omega) (by omega) rfl (Nat.le_of_ble_eq_true rfl) rfl kk) ?_
  refine zpc (of_decide_eq_true hqv2) ?_
  refine And.imp_right (fun kk => z_istore (pc := 1413) (ls' := [(6, .int v2.1), (5, .int v1.1), (0, .ref 950), (1, .ref 0), (2, .ref 42), (3, .ref 72), (4, .int i)]) hG [0, 1, 2, 3, 4, 5, 6] (by decide) rfl dL_law_1413 kk) ?_
  refine And.imp_right (fun kk => z_goto (pc := 1415) (tgt := 1967) hG dL_law_1415 rfl kk) ?_
  obtain rfl := Option.some.inj h
  refine And.imp_right (fun kk => z_sub (ls' := [(0, .ref 950), (1, .ref 0), (2, .ref 42), (3, .ref 72), (4, .int i)]) [2, 3, 4, 5, 6] rfl kk) ?_
  exact kf
noncomputable def nS_32 (a : Nat → Int32) (g : zS) : Option zS :=
  (nL_mend (a 1) (a 2) g).bind fun v1 => zchk (decide (v1.2.2.2.2 = g.2.2.2)) ((nX11_mend (a 1) (a 2) v1.2).bind fun v2 => zchk (decide (v2.2.2.2.2 = v1.2.2.2.2)) ((nX11_thrown v2.2).bind fun v3 => if v3 = v1.1 then (if v1.1 = 0 then (if (lg_cmp (v2.2.2.1 72 (0 : Int32).toNatClampNeg) v2.1.toInt64) = 0 then (some v2.2) else (none)) else (some v2.2)) else (none)))
noncomputable def nU_32 (a : Nat → Int32) (g : zS) : Option zS :=
  (nL_mend (a 1) (a 2) g).bind fun v1 => zchk (decide (v1.2.2.2.2 = g.2.2.2)) ((nX11_mend (a 1) (a 2) v1.2).bind fun v2 => zchk (decide (v2.2.2.2.2 = v1.2.2.2.2)) (some v2.2))
set_option maxHeartbeats 1000000 in
theorem tS_32 {x : zXx} {i : Int32} {a : Nat → Int32} (hl0 : (zl0 x).flags = flags0) (hG : zG x cL_law 7 RL ret) (hPx : zPx x.2.2.2.2.1) (hS : zScr x i a) {A0 B0 C : Nat} (g : zS) {r : zS} (h : nU_32 a g = some r) (kf : zgr r C ∧ zK x 66 1967 [(0, .ref 950), (1, .ref 0), (2, .ref 42), (3, .ref 72), (4, .int i)] [] zD r (A0 + (C / 64 - r.2.2.2 / 64)) (B0 + 2 * (C - r.2.2.2))) : zgr g C ∧ zK x 66 1418 [(0, .ref 950), (1, .ref 0), (2, .ref 42), (3, .ref 72), (4, .int i)] [] zD g (A0 + 3 + (C / 64 - g.2.2.2 / 64)) (B0 + 18 + 2 * (C - g.2.2.2)) := by
  unfold nU_32 at h
  refine And.imp_right (fun kk => z_aload_n (pc := 1418) hG 1 rfl rfl dL_law_1418 kk) ?_
  refine And.imp_right (fun kk => z_aload_n (pc := 1419) hG 0 rfl rfl dL_law_1419 kk) ?_
  refine And.imp_right (fun kk => z_iload (pc := 1420) hG 4 rfl dL_law_1420 kk) ?_
  refine And.imp_right (fun kk => z_iconst (pc := 1422) hG kc_1 dL_law_1422 kk) ?_
  refine And.imp_right (fun kk => z_iadd (pc := 1423) hG dL_law_1423 kk) ?_
  refine And.imp_right (fun kk => z_scr (pc := 1424) hG hS 1 (by decide) rfl dL_law_1424 kk) ?_
  refine And.imp_right (fun kk => z_aload_n (pc := 1425) hG 0 rfl rfl dL_law_1425 kk) ?_
  refine And.imp_right (fun kk => z_iload (pc := 1426) hG 4 rfl dL_law_1426 kk) ?_
  refine And.imp_right (fun kk => z_iconst (pc := 1428) hG kc_2 dL_law_1428 kk) ?_
  refine And.imp_right (fun kk => z_iadd (pc := 1429) hG dL_law_1429 kk) ?_
  refine And.imp_right (fun kk => z_scr (pc := 1430) hG hS 2 (by decide) rfl dL_law_1430 kk) ?_
  refine And.imp_right (fun kk => z_aload_n (pc := 1431) hG 3 rfl rfl dL_law_1431 kk) ?_
  replace h := zbind h
  obtain ⟨v1, hv1, h⟩ := h
  replace h := zchk_some h
  obtain ⟨hqv1, h⟩ := h
  refine And.imp_right (fun kk => z_csH (A' := A0 + (C / 64 - g.2.2.2 / 64)) (B' := B0 + 2 * (C - g.2.2.2)) (rest := []) hG hPx [.ref 0, .int (a 1), .int (a 2), .ref 72] (tL_mend hl0 (a 1) (a 2) g hv1) zyH_mend w1282 w1281 dL_law_1432 rfl (Nat.le_of_ble_eq_true rfl) (by omega) (by omega) rfl (Nat.le_of_ble_eq_true rfl) rfl kk) ?_
  refine zpc (of_decide_eq_true hqv1) ?_
  refine And.imp_right (fun kk => z_istore (pc := 1435) (ls' := [(5, .int v1.1), (0, .ref 950), (1, .ref 0), (2, .ref 42), (3, .ref 72), (4, .int i)]) hG [0, 1, 2, 3, 4, 5] (by decide) rfl dL_law_1435 kk) ?_
  refine And.imp_right (fun kk => z_aload_n (pc := 1437) hG 3 rfl rfl dL_law_1437 kk) ?_
  refine And.imp_right (fun kk => z_aload_n (pc := 1438) hG 1 rfl rfl dL_law_1438 kk) ?_
  refine And.imp_right (fun kk => z_iload (pc := 1439) hG 5 rfl dL_law_1439 kk) ?_
  refine And.imp_right (fun kk => z_iconst (pc := 1441) hG kc_1 dL_law_1441 kk) ?_
  refine And.imp_right (fun kk => z_iadd (pc := 1442) hG dL_law_1442 kk) ?_
  refine And.imp_right (fun kk => z_scr (pc := 1443) hG hS 1 (by decide) rfl dL_law_1443 kk) ?_
  refine And.imp_right (fun kk => z_aload_n (pc := 1444) hG 1 rfl rfl dL_law_1444 kk) ?_
  refine And.imp_right (fun kk => z_iload (pc := 1445) hG 5 rfl dL_law_1445 kk) ?_
  refine And.imp_right (fun kk => z_iconst (pc := 1447) hG kc_2 dL_law_1447 kk) ?_
  refine And.imp_right (fun kk => z_iadd (pc := 1448) hG dL_law_1448 kk) ?_
  refine And.imp_right (fun kk => z_scr (pc := 1449) hG hS 2 (by decide) rfl dL_law_1449 kk) ?_
  replace h := zbind h
  obtain ⟨v2, hv2, h⟩ := h
  replace h := zchk_some h
  obtain ⟨hqv2, h⟩ := h
  refine And.imp_right (fun kk => z_cvI (A' := A0 + (C / 64 - v1.2.2.2.2 / 64)) (B' := B0 + 2 * (C - v1.2.2.2.2)) (nc := 0) (ns := 0) (rest := []) hG [.int (a 1), .int (a 2)] zc_X11 DL_42 (tX11_mend hl0 (a 1) (a 2) v1.2 hv2) zy_X11_mend ⟨w1964, w1965⟩ w1963 dL_law_1450 rfl (Nat.le_of_ble_eq_true rfl) (by omega) (by omega) rfl (Nat.le_of_ble_eq_true rfl) rfl kk) ?_
  refine zpc (of_decide_eq_true hqv2) ?_
  refine And.imp_right (fun kk => z_istore (pc := 1453) (ls' := [(6, .int v2.1), (5, .int v1.1), (0, .ref 950), (1, .ref 0), (2, .ref 42), (3, .ref 72), (4, .int i)]) hG [0, 1, 2, 3, 4, 5, 6] (by decide) rfl dL_law_1453 kk) ?_
  refine And.imp_right (fun kk => z_goto (pc := 1455) (tgt := 1967) hG dL_law_1455 rfl kk) ?_
  obtain rfl := Option.some.inj h
  refine And.imp_right (fun kk => z_sub (ls' := [(0, .ref 950), (1, .ref 0), (2, .ref 42), (3, .ref 72), (4, .int i)]) [2, 3, 4, 5, 6] rfl kk) ?_
  exact kf
noncomputable def nS_33 (a : Nat → Int32) (g : zS) : Option zS :=
  (nL_mendAll (a 1) g).bind fun v1 => zchk (decide (v1.2.2.2.2 = g.2.2.2)) ((nX11_mendAll (a 1) v1.2).bind fun v2 => zchk (decide (v2.2.2.2.2 = v1.2.2.2.2)) ((nX11_thrown v2.2).bind fun v3 => if v3 = v1.1 then (if v1.1 = 0 then (if (lg_cmp (v2.2.2.1 72 (0 : Int32).toNatClampNeg) v2.1.toInt64) = 0 then (some v2.2) else (none)) else (some v2.2)) else (none)))
noncomputable def nU_33 (a : Nat → Int32) (g : zS) : Option zS :=
  (nL_mendAll (a 1) g).bind fun v1 => zchk (decide (v1.2.2.2.2 = g.2.2.2)) ((nX11_mendAll (a 1) v1.2).bind fun v2 => zchk (decide (v2.2.2.2.2 = v1.2.2.2.2)) (some v2.2))
set_option maxHeartbeats 1000000 in
theorem tS_33 {x : zXx} {i : Int32} {a : Nat → Int32} (hl0 : (zl0 x).flags = flags0) (hG : zG x cL_law 7 RL ret) (hPx : zPx x.2.2.2.2.1) (hS : zScr x i a) {A0 B0 C : Nat} (g : zS) {r : zS} (h : nU_33 a g = some r) (kf : zgr r C ∧ zK x 66 1967 [(0, .ref 950), (1, .ref 0), (2, .ref 42), (3, .ref 72), (4, .int i)] [] zD r (A0 + (C / 64 - r.2.2.2 / 64)) (B0 + 2 * (C - r.2.2.2))) : zgr g C ∧ zK x 66 1458 [(0, .ref 950), (1, .ref 0), (2, .ref 42), (3, .ref 72), (4, .int i)] [] zD g (A0 + 1 + (C / 64 - g.2.2.2 / 64)) (B0 + 6 + 2 * (C - g.2.2.2)) := by
  unfold nU_33 at h
  refine And.imp_right (fun kk => z_aload_n (pc := 1458) hG 1 rfl rfl dL_law_1458 kk) ?_
  refine And.imp_right (fun kk => z_aload_n (pc := 1459) hG 0 rfl rfl dL_law_1459 kk) ?_
  refine And.imp_right (fun kk => z_iload (pc := 1460) hG 4 rfl dL_law_1460 kk) ?_
  refine And.imp_right (fun kk => z_iconst (pc := 1462) hG kc_1 dL_law_1462 kk) ?_
  refine And.imp_right (fun kk => z_iadd (pc := 1463) hG dL_law_1463 kk) ?_
  refine And.imp_right (fun kk => z_scr (pc := 1464) hG hS 1 (by decide) rfl dL_law_1464 kk) ?_
  refine And.imp_right (fun kk => z_aload_n (pc := 1465) hG 3 rfl rfl dL_law_1465 kk) ?_
  replace h := zbind h
  obtain ⟨v1, hv1, h⟩ := h
  replace h := zchk_some h
  obtain ⟨hqv1, h⟩ := h
  refine And.imp_right (fun kk => z_csH (A' := A0 + (C / 64 - g.2.2.2 / 64)) (B' := B0 + 2 * (C - g.2.2.2)) (rest := []) hG hPx [.ref 0, .int (a 1), .ref 72] (tL_mendAll hl0 (a 1) g hv1) zyH_mendAll w1294 w1293 dL_law_1466 rfl (Nat.le_of_ble_eq_true rfl) (by omega) (by omega) rfl (Nat.le_of_ble_eq_true rfl) rfl kk) ?_
  refine zpc (of_decide_eq_true hqv1) ?_
  refine And.imp_right (fun kk => z_istore (pc := 1469) (ls' := [(5, .int v1.1), (0, .ref 950), (1, .ref 0), (2, .ref 42), (3, .ref 72), (4, .int i)]) hG [0, 1, 2, 3, 4, 5] (by decide) rfl dL_law_1469 kk) ?_
  refine And.imp_right (fun kk => z_aload_n (pc := 1471) hG 3 rfl rfl dL_law_1471 kk) ?_
  refine And.imp_right (fun kk => z_aload_n (pc := 1472) hG 1 rfl rfl dL_law_1472 kk) ?_
  refine And.imp_right (fun kk => z_iload (pc := 1473) hG 5 rfl dL_law_1473 kk) ?_
  refine And.imp_right (fun kk => z_iconst (pc := 1475) hG kc_1 dL_law_1475 kk) ?_
  refine And.imp_right (fun kk => z_iadd (pc := 1476) hG dL_law_1476 kk) ?_
  refine And.imp_right (fun kk => z_scr (pc := 1477) hG hS 1 (by decide) rfl dL_law_1477 kk) ?_
  replace h := zbind h
  obtain ⟨v2, hv2, h⟩ := h
  replace h := zchk_some h
  obtain ⟨hqv2, h⟩ := h
  refine And.imp_right (fun kk => z_cvI (A' := A0 + (C / 64 - v1.2.2.2.2 / 64)) (B' := B0 + 2 * (C - v1.2.2.2.2)) (nc := 0) (ns := 0) (rest := []) hG [.int (a 1)] zc_X11 DL_42 (tX11_mendAll hl0 (a 1) v1.2 hv2) zy_X11_mendAll ⟨w1976, w1977⟩ w1975 dL_law_1478 rfl (Nat.le_of_ble_eq_true rfl) (by omega) (by omega) rfl (Nat.le_of_ble_eq_true rfl) rfl kk) ?_
  refine zpc (of_decide_eq_true hqv2) ?_
  refine And.imp_right (fun kk => z_istore (pc := 1481) (ls' := [(6, .int v2.1), (5, .int v1.1), (0, .ref 950), (1, .ref 0), (2, .ref 42), (3, .ref 72), (4, .int i)]) hG [0, 1, 2, 3, 4, 5, 6] (by decide) rfl dL_law_1481 kk) ?_
  refine And.imp_right (fun kk => z_goto (pc := 1483) (tgt := 1967) hG dL_law_1483 rfl kk) ?_
  obtain rfl := Option.some.inj h
  refine And.imp_right (fun kk => z_sub (ls' := [(0, .ref 950), (1, .ref 0), (2, .ref 42), (3, .ref 72), (4, .int i)]) [2, 3, 4, 5, 6] rfl kk) ?_
  exact kf
noncomputable def nS_34 (a : Nat → Int32) (g : zS) : Option zS :=
  (nL_trial (a 1) (a 2) g).bind fun v1 => zchk (decide (v1.2.2.2.2 = g.2.2.2)) ((nX11_trial (a 1) (a 2) v1.2).bind fun v2 => zchk (decide (v2.2.2.2.2 = v1.2.2.2.2)) ((nX11_thrown v2.2).bind fun v3 => if v3 = v1.1 then (if v1.1 = 0 then (if (lg_cmp (v2.2.2.1 72 (0 : Int32).toNatClampNeg) v2.1.toInt64) = 0 then (some v2.2) else (none)) else (some v2.2)) else (none)))
noncomputable def nU_34 (a : Nat → Int32) (g : zS) : Option zS :=
  (nL_trial (a 1) (a 2) g).bind fun v1 => zchk (decide (v1.2.2.2.2 = g.2.2.2)) ((nX11_trial (a 1) (a 2) v1.2).bind fun v2 => zchk (decide (v2.2.2.2.2 = v1.2.2.2.2)) (some v2.2))
set_option maxHeartbeats 1000000 in
theorem tS_34 {x : zXx} {i : Int32} {a : Nat → Int32} (hl0 : (zl0 x).flags = flags0) (hG : zG x cL_law 7 RL ret) (hPx : zPx x.2.2.2.2.1) (hS : zScr x i a) {A0 B0 C : Nat} (g : zS) {r : zS} (h : nU_34 a g = some r) (kf : zgr r C ∧ zK x 66 1967 [(0, .ref 950), (1, .ref 0), (2, .ref 42), (3, .ref 72), (4, .int i)] [] zD r (A0 + (C / 64 - r.2.2.2 / 64)) (B0 + 2 * (C - r.2.2.2))) : zgr g C ∧ zK x 66 1486 [(0, .ref 950), (1, .ref 0), (2, .ref 42), (3, .ref 72), (4, .int i)] [] zD g (A0 + 2 + (C / 64 - g.2.2.2 / 64)) (B0 + 12 + 2 * (C - g.2.2.2)) := by
  unfold nU_34 at h
  refine And.imp_right (fun kk => z_aload_n (pc := 1486) hG 1 rfl rfl dL_law_1486 kk) ?_
  refine And.imp_right (fun kk => z_aload_n (pc := 1487) hG 0 rfl rfl dL_law_1487 kk) ?_
  refine And.imp_right (fun kk => z_iload (pc := 1488) hG 4 rfl dL_law_1488 kk) ?_
  refine And.imp_right (fun kk => z_iconst (pc := 1490) hG kc_1 dL_law_1490 kk) ?_
  refine And.imp_right (fun kk => z_iadd (pc := 1491) hG dL_law_1491 kk) ?_
  refine And.imp_right (fun kk => z_scr (pc := 1492) hG hS 1 (by decide) rfl dL_law_1492 kk) ?_
  refine And.imp_right (fun kk => z_aload_n (pc := 1493) hG 0 rfl rfl dL_law_1493 kk) ?_
  refine And.imp_right (fun kk => z_iload (pc := 1494) hG 4 rfl dL_law_1494 kk) ?_
  refine And.imp_right (fun kk => z_iconst (pc := 1496) hG kc_2 dL_law_1496 kk) ?_
  refine And.imp_right (fun kk => z_iadd (pc := 1497) hG dL_law_1497 kk) ?_
  refine And.imp_right (fun kk => z_scr (pc := 1498) hG hS 2 (by decide) rfl dL_law_1498 kk) ?_
  refine And.imp_right (fun kk => z_aload_n (pc := 1499) hG 3 rfl rfl dL_law_1499 kk) ?_
  replace h := zbind h
  obtain ⟨v1, hv1, h⟩ := h
  replace h := zchk_some h
  obtain ⟨hqv1, h⟩ := h
  refine And.imp_right (fun kk => z_csH (A' := A0 + (C / 64 - g.2.2.2 / 64)) (B' := B0 + 2 * (C - g.2.2.2)) (rest := []) hG hPx [.ref 0, .int (a 1), .int (a 2), .ref 72] (tL_trial hl0 (a 1) (a 2) g hv1) zyH_trial w1306 w1305 dL_law_1500 rfl (Nat.le_of_ble_eq_true rfl) (by omega) (by omega) rfl (Nat.le_of_ble_eq_true rfl) rfl kk) ?_
  refine zpc (of_decide_eq_true hqv1) ?_
  refine And.imp_right (fun kk => z_istore (pc := 1503) (ls' := [(5, .int v1.1), (0, .ref 950), (1, .ref 0), (2, .ref 42), (3, .ref 72), (4, .int i)]) hG [0, 1, 2, 3, 4, 5] (by decide) rfl dL_law_1503 kk) ?_
  refine And.imp_right (fun kk => z_aload_n (pc := 1505) hG 3 rfl rfl dL_law_1505 kk) ?_
  refine And.imp_right (fun kk => z_aload_n (pc := 1506) hG 1 rfl rfl dL_law_1506 kk) ?_
  refine And.imp_right (fun kk => z_iload (pc := 1507) hG 5 rfl dL_law_1507 kk) ?_
  refine And.imp_right (fun kk => z_iconst (pc := 1509) hG kc_1 dL_law_1509 kk) ?_
  refine And.imp_right (fun kk => z_iadd (pc := 1510) hG dL_law_1510 kk) ?_
  refine And.imp_right (fun kk => z_scr (pc := 1511) hG hS 1 (by decide) rfl dL_law_1511 kk) ?_
  refine And.imp_right (fun kk => z_aload_n (pc := 1512) hG 1 rfl rfl dL_law_1512 kk) ?_
  refine And.imp_right (fun kk => z_iload (pc := 1513) hG 5 rfl dL_law_1513 kk) ?_
  refine And.imp_right (fun kk => z_iconst (pc := 1515) hG kc_2 dL_law_1515 kk) ?_
  refine And.imp_right (fun kk => z_iadd (pc := 1516) hG dL_law_1516 kk) ?_
  refine And.imp_right (fun kk => z_scr (pc := 1517) hG hS 2 (by decide) rfl dL_law_1517 kk) ?_
  replace h := zbind h
  obtain ⟨v2, hv2, h⟩ := h
  replace h := zchk_some h
  obtain ⟨hqv2, h⟩ := h
  refine And.imp_right (fun kk => z_cvI (A' := A0 + (C / 64 - v1.2.2.2.2 / 64)) (B' := B0 + 2 * (C - v1.2.2.2.2)) (nc := 0) (ns := 0) (rest := []) hG [.int (a 1), .int (a 2)] zc_X11 DL_42 (tX11_trial hl0 (a 1) (a 2) v1.2 hv2) zy_X11_trial ⟨w1984, w1985⟩ w1983 dL_law_1518 rfl (Nat.le_of_ble_eq_true rfl) (by omega) (by omega) rfl (Nat.le_of_ble_eq_true rfl) rfl kk) ?_
  refine zpc (of_decide_eq_true hqv2) ?_
  refine And.imp_right (fun kk => z_istore (pc := 1521) (ls' := [(6, .int v2.1), (5, .int v1.1), (0, .ref 950), (1, .ref 0), (2, .ref 42), (3, .ref 72), (4, .int i)]) hG [0, 1, 2, 3, 4, 5, 6] (by decide) rfl dL_law_1521 kk) ?_
  refine And.imp_right (fun kk => z_goto (pc := 1523) (tgt := 1967) hG dL_law_1523 rfl kk) ?_
  obtain rfl := Option.some.inj h
  refine And.imp_right (fun kk => z_sub (ls' := [(0, .ref 950), (1, .ref 0), (2, .ref 42), (3, .ref 72), (4, .int i)]) [2, 3, 4, 5, 6] rfl kk) ?_
  exact kf
noncomputable def nS_35 (a : Nat → Int32) (g : zS) : Option zS :=
  (nX10_undo g).bind fun v1 => zchk (decide (v1.2.2.2.2 = g.2.2.2)) ((nX11_undo v1.2).bind fun v2 => zchk (decide (v2.2.2.2.2 = v1.2.2.2.2)) (if v1.1 = v2.1 then (some v2.2) else (none)))
noncomputable def nU_35 (a : Nat → Int32) (g : zS) : Option zS :=
  (nX10_undo g).bind fun v1 => zchk (decide (v1.2.2.2.2 = g.2.2.2)) ((nX11_undo v1.2).bind fun v2 => zchk (decide (v2.2.2.2.2 = v1.2.2.2.2)) (some v2.2))
set_option maxHeartbeats 1000000 in
theorem tS_35 {x : zXx} {i : Int32} {a : Nat → Int32} (hl0 : (zl0 x).flags = flags0) (hG : zG x cL_law 7 RL ret) (hPx : zPx x.2.2.2.2.1) (hS : zScr x i a) {A0 B0 C : Nat} (g : zS) {r : zS} (h : nU_35 a g = some r) (kf : zgr r C ∧ zK x 66 1967 [(0, .ref 950), (1, .ref 0), (2, .ref 42), (3, .ref 72), (4, .int i)] [] zD r (A0 + (C / 64 - r.2.2.2 / 64)) (B0 + 2 * (C - r.2.2.2))) : zgr g C ∧ zK x 66 1526 [(0, .ref 950), (1, .ref 0), (2, .ref 42), (3, .ref 72), (4, .int i)] [] zD g (A0 + 0 + (C / 64 - g.2.2.2 / 64)) (B0 + 0 + 2 * (C - g.2.2.2)) := by
  unfold nU_35 at h
  refine And.imp_right (fun kk => z_aload_n (pc := 1526) hG 1 rfl rfl dL_law_1526 kk) ?_
  replace h := zbind h
  obtain ⟨v1, hv1, h⟩ := h
  replace h := zchk_some h
  obtain ⟨hqv1, h⟩ := h
  refine And.imp_right (fun kk => z_cvI (A' := A0 + (C / 64 - g.2.2.2 / 64)) (B' := B0 + 2 * (C - g.2.2.2)) (nc := 0) (ns := 0) (rest := []) hG [] zc_X10 DL_0 (tX10_undo hl0  g hv1) zy_X10_undo ⟨w484, w485⟩ w483 dL_law_1527 rfl (Nat.le_of_ble_eq_true rfl) (by omega) (by omega) rfl (Nat.le_of_ble_eq_true rfl) rfl kk) ?_
  refine zpc (of_decide_eq_true hqv1) ?_
  refine And.imp_right (fun kk => z_pop (pc := 1530) hG rfl dL_law_1530 kk) ?_
  refine And.imp_right (fun kk => z_aload_n (pc := 1531) hG 2 rfl rfl dL_law_1531 kk) ?_
  replace h := zbind h
  obtain ⟨v2, hv2, h⟩ := h
  replace h := zchk_some h
  obtain ⟨hqv2, h⟩ := h
  refine And.imp_right (fun kk => z_cvI (A' := A0 + (C / 64 - v1.2.2.2.2 / 64)) (B' := B0 + 2 * (C - v1.2.2.2.2)) (nc := 0) (ns := 0) (rest := []) hG [] zc_X11 DL_42 (tX11_undo hl0  v1.2 hv2) zy_X11_undo ⟨w1988, w1989⟩ w1987 dL_law_1532 rfl (Nat.le_of_ble_eq_true rfl) (by omega) (by omega) rfl (Nat.le_of_ble_eq_true rfl) rfl kk) ?_
  refine zpc (of_decide_eq_true hqv2) ?_
  refine And.imp_right (fun kk => z_pop (pc := 1535) hG rfl dL_law_1535 kk) ?_
  refine And.imp_right (fun kk => z_goto (pc := 1536) (tgt := 1967) hG dL_law_1536 rfl kk) ?_
  obtain rfl := Option.some.inj h
  exact kf
noncomputable def nS_36 (a : Nat → Int32) (g : zS) : Option zS :=
  (nL_pattern (a 1) (a 2) g).bind fun v1 => zchk (decide (v1.2.2.2.2 = g.2.2.2)) ((nX11_pattern (a 1) (a 2) v1.2).bind fun v2 => zchk (decide (v2.2.2.2.2 = v1.2.2.2.2)) ((nX11_thrown v2.2).bind fun v3 => if v3 = v1.1 then (if v1.1 = 0 then (if (lg_cmp (v2.2.2.1 72 (0 : Int32).toNatClampNeg) v2.1.toInt64) = 0 then (some v2.2) else (none)) else (some v2.2)) else (none)))
noncomputable def nU_36 (a : Nat → Int32) (g : zS) : Option zS :=
  (nL_pattern (a 1) (a 2) g).bind fun v1 => zchk (decide (v1.2.2.2.2 = g.2.2.2)) ((nX11_pattern (a 1) (a 2) v1.2).bind fun v2 => zchk (decide (v2.2.2.2.2 = v1.2.2.2.2)) (some v2.2))
set_option maxHeartbeats 1000000 in
theorem tS_36 {x : zXx} {i : Int32} {a : Nat → Int32} (hl0 : (zl0 x).flags = flags0) (hG : zG x cL_law 7 RL ret) (hPx : zPx x.2.2.2.2.1) (hS : zScr x i a) {A0 B0 C : Nat} (g : zS) {r : zS} (h : nU_36 a g = some r) (kf : zgr r C ∧ zK x 66 1967 [(0, .ref 950), (1, .ref 0), (2, .ref 42), (3, .ref 72), (4, .int i)] [] zD r (A0 + (C / 64 - r.2.2.2 / 64)) (B0 + 2 * (C - r.2.2.2))) : zgr g C ∧ zK x 66 1539 [(0, .ref 950), (1, .ref 0), (2, .ref 42), (3, .ref 72), (4, .int i)] [] zD g (A0 + 1 + (C / 64 - g.2.2.2 / 64)) (B0 + 6 + 2 * (C - g.2.2.2)) := by
  unfold nU_36 at h
  refine And.imp_right (fun kk => z_aload_n (pc := 1539) hG 1 rfl rfl dL_law_1539 kk) ?_
  refine And.imp_right (fun kk => z_aload_n (pc := 1540) hG 0 rfl rfl dL_law_1540 kk) ?_
  refine And.imp_right (fun kk => z_iload (pc := 1541) hG 4 rfl dL_law_1541 kk) ?_
  refine And.imp_right (fun kk => z_iconst (pc := 1543) hG kc_1 dL_law_1543 kk) ?_
  refine And.imp_right (fun kk => z_iadd (pc := 1544) hG dL_law_1544 kk) ?_
  refine And.imp_right (fun kk => z_scr (pc := 1545) hG hS 1 (by decide) rfl dL_law_1545 kk) ?_
  refine And.imp_right (fun kk => z_aload_n (pc := 1546) hG 0 rfl rfl dL_law_1546 kk) ?_
  refine And.imp_right (fun kk => z_iload (pc := 1547) hG 4 rfl dL_law_1547 kk) ?_
  refine And.imp_right (fun kk => z_iconst (pc := 1549) hG kc_2 dL_law_1549 kk) ?_
  refine And.imp_right (fun kk => z_iadd (pc := 1550) hG dL_law_1550 kk) ?_
  refine And.imp_right (fun kk => z_scr (pc := 1551) hG hS 2 (by decide) rfl dL_law_1551 kk) ?_
  refine And.imp_right (fun kk => z_aload_n (pc := 1552) hG 3 rfl rfl dL_law_1552 kk) ?_
  replace h := zbind h
  obtain ⟨v1, hv1, h⟩ := h
  replace h := zchk_some h
  obtain ⟨hqv1, h⟩ := h
  refine And.imp_right (fun kk => z_csH (A' := A0 + (C / 64 - g.2.2.2 / 64)) (B' := B0 + 2 * (C - g.2.2.2)) (rest := []) hG hPx [.ref 0, .int (a 1), .int (a 2), .ref 72] (tL_pattern hl0 (a 1) (a 2) g hv1) zyH_pattern w1313 w1312 dL_law_1553 rfl (Nat.le_of_ble_eq_true rfl) (by omega) (by omega) rfl (Nat.le_of_ble_eq_true rfl) rfl kk) ?_
  refine zpc (of_decide_eq_true hqv1) ?_
  refine And.imp_right (fun kk => z_istore (pc := 1556) (ls' := [(5, .int v1.1), (0, .ref 950), (1, .ref 0), (2, .ref 42), (3, .ref 72), (4, .int i)]) hG [0, 1, 2, 3, 4, 5] (by decide) rfl dL_law_1556 kk) ?_
  refine And.imp_right (fun kk => z_aload_n (pc := 1558) hG 3 rfl rfl dL_law_1558 kk) ?_
  refine And.imp_right (fun kk => z_aload_n (pc := 1559) hG 1 rfl rfl dL_law_1559 kk) ?_
  refine And.imp_right (fun kk => z_iload (pc := 1560) hG 5 rfl dL_law_1560 kk) ?_
  refine And.imp_right (fun kk => z_iconst (pc := 1562) hG kc_1 dL_law_1562 kk) ?_
  refine And.imp_right (fun kk => z_iadd (pc := 1563) hG dL_law_1563 kk) ?_
  refine And.imp_right (fun kk => z_scr (pc := 1564) hG hS 1 (by decide) rfl dL_law_1564 kk) ?_
  refine And.imp_right (fun kk => z_aload_n (pc := 1565) hG 1 rfl rfl dL_law_1565 kk) ?_
  refine And.imp_right (fun kk => z_iload (pc := 1566) hG 5 rfl dL_law_1566 kk) ?_
  refine And.imp_right (fun kk => z_iconst (pc := 1568) hG kc_2 dL_law_1568 kk) ?_
  refine And.imp_right (fun kk => z_iadd (pc := 1569) hG dL_law_1569 kk) ?_
  refine And.imp_right (fun kk => z_scr (pc := 1570) hG hS 2 (by decide) rfl dL_law_1570 kk) ?_
  replace h := zbind h
  obtain ⟨v2, hv2, h⟩ := h
  replace h := zchk_some h
  obtain ⟨hqv2, h⟩ := h
  refine And.imp_right (fun kk => z_cvI (A' := A0 + (C / 64 - v1.2.2.2.2 / 64)) (B' := B0 + 2 * (C - v1.2.2.2.2)) (nc := 0) (ns := 0) (rest := []) hG [.int (a 1), .int (a 2)] zc_X11 DL_42 (tX11_pattern hl0 (a 1) (a 2) v1.2 hv2) zy_X11_pattern ⟨w1992, w1993⟩ w1991 dL_law_1571 rfl (Nat.le_of_ble_eq_true rfl) (by omega) (by omega) rfl (Nat.le_of_ble_eq_true rfl) rfl kk) ?_
  refine zpc (of_decide_eq_true hqv2) ?_
  refine And.imp_right (fun kk => z_istore (pc := 1574) (ls' := [(6, .int v2.1), (5, .int v1.1), (0, .ref 950), (1, .ref 0), (2, .ref 42), (3, .ref 72), (4, .int i)]) hG [0, 1, 2, 3, 4, 5, 6] (by decide) rfl dL_law_1574 kk) ?_
  refine And.imp_right (fun kk => z_goto (pc := 1576) (tgt := 1967) hG dL_law_1576 rfl kk) ?_
  obtain rfl := Option.some.inj h
  refine And.imp_right (fun kk => z_sub (ls' := [(0, .ref 950), (1, .ref 0), (2, .ref 42), (3, .ref 72), (4, .int i)]) [2, 3, 4, 5, 6] rfl kk) ?_
  exact kf
noncomputable def nS_37 (a : Nat → Int32) (g : zS) : Option zS :=
  (nX10_patterns g).bind fun v1 => zchk (decide (v1.2.2.2.2 = g.2.2.2)) ((nX11_patterns v1.2).bind fun v2 => zchk (decide (v2.2.2.2.2 = v1.2.2.2.2)) (if v1.1 = v2.1 then (some v2.2) else (none)))
noncomputable def nU_37 (a : Nat → Int32) (g : zS) : Option zS :=
  (nX10_patterns g).bind fun v1 => zchk (decide (v1.2.2.2.2 = g.2.2.2)) ((nX11_patterns v1.2).bind fun v2 => zchk (decide (v2.2.2.2.2 = v1.2.2.2.2)) (some v2.2))
set_option maxHeartbeats 1000000 in
theorem tS_37 {x : zXx} {i : Int32} {a : Nat → Int32} (hl0 : (zl0 x).flags = flags0) (hG : zG x cL_law 7 RL ret) (hPx : zPx x.2.2.2.2.1) (hS : zScr x i a) {A0 B0 C : Nat} (g : zS) {r : zS} (h : nU_37 a g = some r) (kf : zgr r C ∧ zK x 66 1967 [(0, .ref 950), (1, .ref 0), (2, .ref 42), (3, .ref 72), (4, .int i)] [] zD r (A0 + (C / 64 - r.2.2.2 / 64)) (B0 + 2 * (C - r.2.2.2))) : zgr g C ∧ zK x 66 1579 [(0, .ref 950), (1, .ref 0), (2, .ref 42), (3, .ref 72), (4, .int i)] [] zD g (A0 + 0 + (C / 64 - g.2.2.2 / 64)) (B0 + 0 + 2 * (C - g.2.2.2)) := by
  unfold nU_37 at h
  refine And.imp_right (fun kk => z_aload_n (pc := 1579) hG 1 rfl rfl dL_law_1579 kk) ?_
  replace h := zbind h
  obtain ⟨v1, hv1, h⟩ := h
  replace h := zchk_some h
  obtain ⟨hqv1, h⟩ := h
  refine And.imp_right (fun kk => z_cvI (A' := A0 + (C / 64 - g.2.2.2 / 64)) (B' := B0 + 2 * (C - g.2.2.2)) (nc := 0) (ns := 0) (rest := []) hG [] zc_X10 DL_0 (tX10_patterns hl0  g hv1) zy_X10_patterns ⟨w493, w494⟩ w492 dL_law_1580 rfl (Nat.le_of_ble_eq_true rfl) (by omega) (by omega) rfl (Nat.le_of_ble_eq_true rfl) rfl kk) ?_
  refine zpc (of_decide_eq_true hqv1) ?_
  refine And.imp_right (fun kk => z_pop (pc := 1583) hG rfl dL_law_1583 kk) ?_
  refine And.imp_right (fun kk => z_aload_n (pc := 1584) hG 2 rfl rfl dL_law_1584 kk) ?_
  replace h := zbind h
  obtain ⟨v2, hv2, h⟩ := h
  replace h := zchk_some h
  obtain ⟨hqv2, h⟩ := h
  refine And.imp_right (fun kk => z_cvI (A' := A0 + (C / 64 - v1.2.2.2.2 / 64)) (B' := B0 + 2 * (C - v1.2.2.2.2)) (nc := 0) (ns := 0) (rest := []) hG [] zc_X11 DL_42 (tX11_patterns hl0  v1.2 hv2) zy_X11_patterns ⟨w2004, w2005⟩ w2003 dL_law_1585 rfl (Nat.le_of_ble_eq_true rfl) (by omega) (by omega) rfl (Nat.le_of_ble_eq_true rfl) rfl kk) ?_
  refine zpc (of_decide_eq_true hqv2) ?_
  refine And.imp_right (fun kk => z_pop (pc := 1588) hG rfl dL_law_1588 kk) ?_
  refine And.imp_right (fun kk => z_goto (pc := 1589) (tgt := 1967) hG dL_law_1589 rfl kk) ?_
  obtain rfl := Option.some.inj h
  exact kf
noncomputable def nS_38 (a : Nat → Int32) (g : zS) : Option zS :=
  if (a 2) = 0 then ((nL_alike (a 1) (0 : Int32) g).bind fun v1 => zchk (decide (v1.2.2.2.2 = g.2.2.2)) (if (a 2) = 0 then ((nX11_alike (a 1) (0 : Int32) v1.2).bind fun v2 => zchk (decide (v2.2.2.2.2 = v1.2.2.2.2)) ((nX11_thrown v2.2).bind fun v3 => if v3 = v1.1 then (if v1.1 = 0 then (if (lg_cmp (v2.2.2.1 72 (0 : Int32).toNatClampNeg) v2.1.toInt64) = 0 then (some v2.2) else (none)) else (some v2.2)) else (none))) else ((nX11_alike (a 1) (1 : Int32) v1.2).bind fun v4 => zchk (decide (v4.2.2.2.2 = v1.2.2.2.2)) ((nX11_thrown v4.2).bind fun v5 => if v5 = v1.1 then (if v1.1 = 0 then (if (lg_cmp (v4.2.2.1 72 (0 : Int32).toNatClampNeg) v4.1.toInt64) = 0 then (some v4.2) else (none)) else (some v4.2)) else (none))))) else ((nL_alike (a 1) (1 : Int32) g).bind fun v6 => zchk (decide (v6.2.2.2.2 = g.2.2.2)) (if (a 2) = 0 then ((nX11_alike (a 1) (0 : Int32) v6.2).bind fun v7 => zchk (decide (v7.2.2.2.2 = v6.2.2.2.2)) ((nX11_thrown v7.2).bind fun v8 => if v8 = v6.1 then (if v6.1 = 0 then (if (lg_cmp (v7.2.2.1 72 (0 : Int32).toNatClampNeg) v7.1.toInt64) = 0 then (some v7.2) else (none)) else (some v7.2)) else (none))) else ((nX11_alike (a 1) (1 : Int32) v6.2).bind fun v9 => zchk (decide (v9.2.2.2.2 = v6.2.2.2.2)) ((nX11_thrown v9.2).bind fun v10 => if v10 = v6.1 then (if v6.1 = 0 then (if (lg_cmp (v9.2.2.1 72 (0 : Int32).toNatClampNeg) v9.1.toInt64) = 0 then (some v9.2) else (none)) else (some v9.2)) else (none)))))
noncomputable def nU_38 (a : Nat → Int32) (g : zS) : Option zS :=
  if (a 2) = 0 then ((nL_alike (a 1) (0 : Int32) g).bind fun v1 => zchk (decide (v1.2.2.2.2 = g.2.2.2)) (if (a 2) = 0 then ((nX11_alike (a 1) (0 : Int32) v1.2).bind fun v2 => zchk (decide (v2.2.2.2.2 = v1.2.2.2.2)) (some v2.2)) else ((nX11_alike (a 1) (1 : Int32) v1.2).bind fun v3 => zchk (decide (v3.2.2.2.2 = v1.2.2.2.2)) (some v3.2)))) else ((nL_alike (a 1) (1 : Int32) g).bind fun v4 => zchk (decide (v4.2.2.2.2 = g.2.2.2)) (if (a 2) = 0 then ((nX11_alike (a 1) (0 : Int32) v4.2).bind fun v5 => zchk (decide (v5.2.2.2.2 = v4.2.2.2.2)) (some v5.2)) else ((nX11_alike (a 1) (1 : Int32) v4.2).bind fun v6 => zchk (decide (v6.2.2.2.2 = v4.2.2.2.2)) (some v6.2))))
set_option maxHeartbeats 1000000 in
theorem tS_38 {x : zXx} {i : Int32} {a : Nat → Int32} (hl0 : (zl0 x).flags = flags0) (hG : zG x cL_law 7 RL ret) (hPx : zPx x.2.2.2.2.1) (hS : zScr x i a) {A0 B0 C : Nat} (g : zS) {r : zS} (h : nU_38 a g = some r) (kf : zgr r C ∧ zK x 66 1967 [(0, .ref 950), (1, .ref 0), (2, .ref 42), (3, .ref 72), (4, .int i)] [] zD r (A0 + (C / 64 - r.2.2.2 / 64)) (B0 + 2 * (C - r.2.2.2))) : zgr g C ∧ zK x 66 1592 [(0, .ref 950), (1, .ref 0), (2, .ref 42), (3, .ref 72), (4, .int i)] [] zD g (A0 + 1 + (C / 64 - g.2.2.2 / 64)) (B0 + 6 + 2 * (C - g.2.2.2)) := by
  unfold nU_38 at h
  refine And.imp_right (fun kk => z_aload_n (pc := 1592) hG 1 rfl rfl dL_law_1592 kk) ?_
  refine And.imp_right (fun kk => z_aload_n (pc := 1593) hG 0 rfl rfl dL_law_1593 kk) ?_
  refine And.imp_right (fun kk => z_iload (pc := 1594) hG 4 rfl dL_law_1594 kk) ?_
  refine And.imp_right (fun kk => z_iconst (pc := 1596) hG kc_1 dL_law_1596 kk) ?_
  refine And.imp_right (fun kk => z_iadd (pc := 1597) hG dL_law_1597 kk) ?_
  refine And.imp_right (fun kk => z_scr (pc := 1598) hG hS 1 (by decide) rfl dL_law_1598 kk) ?_
  refine And.imp_right (fun kk => z_aload_n (pc := 1599) hG 0 rfl rfl dL_law_1599 kk) ?_
  refine And.imp_right (fun kk => z_iload (pc := 1600) hG 4 rfl dL_law_1600 kk) ?_
  refine And.imp_right (fun kk => z_iconst (pc := 1602) hG kc_2 dL_law_1602 kk) ?_
  refine And.imp_right (fun kk => z_iadd (pc := 1603) hG dL_law_1603 kk) ?_
  refine And.imp_right (fun kk => z_scr (pc := 1604) hG hS 2 (by decide) rfl dL_law_1604 kk) ?_
  refine zbr (c := (a 2) = 0) (fun hc => ?_) (fun hc => ?_) (fun k1 k2 => z_if_eq (pc := 1605) (tgt := 1612) hG dL_law_1605 rfl k1 k2)
  · replace h := zif_t hc h
    refine And.imp_right (fun kk => z_iconst (pc := 1612) hG kc_0 dL_law_1612 kk) ?_
    refine And.imp_right (fun kk => z_aload_n (pc := 1613) hG 3 rfl rfl dL_law_1613 kk) ?_
    replace h := zbind h
    obtain ⟨v1, hv1, h⟩ := h
    replace h := zchk_some h
    obtain ⟨hqv1, h⟩ := h
    refine And.imp_right (fun kk => z_csH (A' := A0 + (C / 64 - g.2.2.2 / 64)) (B' := B0 + 2 * (C - g.2.2.2)) (rest := []) hG hPx [.ref 0, .int (a 1), .int (0 : Int32), .ref 72] (tL_alike hl0 (a 1) (0 : Int32) g hv1) zyH_alike w1332 w1331 dL_law_1614 rfl (Nat.le_of_ble_eq_true rfl) (by omega) (by omega) rfl (Nat.le_of_ble_eq_true rfl) rfl kk) ?_
    refine zpc (of_decide_eq_true hqv1) ?_
    refine And.imp_right (fun kk => z_istore (pc := 1617) (ls' := [(5, .int v1.1), (0, .ref 950), (1, .ref 0), (2, .ref 42), (3, .ref 72), (4, .int i)]) hG [0, 1, 2, 3, 4, 5] (by decide) rfl dL_law_1617 kk) ?_
    refine And.imp_right (fun kk => z_aload_n (pc := 1619) hG 3 rfl rfl dL_law_1619 kk) ?_
    refine And.imp_right (fun kk => z_aload_n (pc := 1620) hG 1 rfl rfl dL_law_1620 kk) ?_
    refine And.imp_right (fun kk => z_iload (pc := 1621) hG 5 rfl dL_law_1621 kk) ?_
    refine And.imp_right (fun kk => z_iconst (pc := 1623) hG kc_1 dL_law_1623 kk) ?_
    refine And.imp_right (fun kk => z_iadd (pc := 1624) hG dL_law_1624 kk) ?_
    refine And.imp_right (fun kk => z_scr (pc := 1625) hG hS 1 (by decide) rfl dL_law_1625 kk) ?_
    refine And.imp_right (fun kk => z_aload_n (pc := 1626) hG 1 rfl rfl dL_law_1626 kk) ?_
    refine And.imp_right (fun kk => z_iload (pc := 1627) hG 5 rfl dL_law_1627 kk) ?_
    refine And.imp_right (fun kk => z_iconst (pc := 1629) hG kc_2 dL_law_1629 kk) ?_
    refine And.imp_right (fun kk => z_iadd (pc := 1630) hG dL_law_1630 kk) ?_
    refine And.imp_right (fun kk => z_scr (pc := 1631) hG hS 2 (by decide) rfl dL_law_1631 kk) ?_
    refine zbr (c := (a 2) = 0) (fun hc => ?_) (fun hc => ?_) (fun k1 k2 => z_if_eq (pc := 1632) (tgt := 1639) hG dL_law_1632 rfl k1 k2)
    · replace h := zif_t hc h
      refine And.imp_right (fun kk => z_iconst (pc := 1639) hG kc_0 dL_law_1639 kk) ?_
      replace h := zbind h
      obtain ⟨v2, hv2, h⟩ := h
      replace h := zchk_some h
      obtain ⟨hqv2, h⟩ := h
      refine And.imp_right (fun kk => z_cvI (A' := A0 + (C / 64 - v1.2.2.2.2 / 64)) (B' := B0 + 2 * (C - v1.2.2.2.2)) (nc := 0) (ns := 0) (rest := []) hG [.int (a 1), .int (0 : Int32)] zc_X11 DL_42 (tX11_alike hl0 (a 1) (0 : Int32) v1.2 hv2) zy_X11_alike ⟨w2008, w2009⟩ w2007 dL_law_1640 rfl (Nat.le_of_ble_eq_true rfl) (by omega) (by omega) rfl (Nat.le_of_ble_eq_true rfl) rfl kk) ?_
      refine zpc (of_decide_eq_true hqv2) ?_
      refine And.imp_right (fun kk => z_istore (pc := 1643) (ls' := [(6, .int v2.1), (5, .int v1.1), (0, .ref 950), (1, .ref 0), (2, .ref 42), (3, .ref 72), (4, .int i)]) hG [0, 1, 2, 3, 4, 5, 6] (by decide) rfl dL_law_1643 kk) ?_
      refine And.imp_right (fun kk => z_goto (pc := 1645) (tgt := 1967) hG dL_law_1645 rfl kk) ?_
      obtain rfl := Option.some.inj h
      refine And.imp_right (fun kk => z_sub (ls' := [(0, .ref 950), (1, .ref 0), (2, .ref 42), (3, .ref 72), (4, .int i)]) [2, 3, 4, 5, 6] rfl kk) ?_
      exact kf
    · replace h := zif_f hc h
      refine And.imp_right (fun kk => z_iconst (pc := 1635) hG kc_1 dL_law_1635 kk) ?_
      refine And.imp_right (fun kk => z_goto (pc := 1636) (tgt := 1640) hG dL_law_1636 rfl kk) ?_
      replace h := zbind h
      obtain ⟨v3, hv3, h⟩ := h
      replace h := zchk_some h
      obtain ⟨hqv3, h⟩ := h
      refine And.imp_right (fun kk => z_cvI (A' := A0 + (C / 64 - v1.2.2.2.2 / 64)) (B' := B0 + 2 * (C - v1.2.2.2.2)) (nc := 0) (ns := 0) (rest := []) hG [.int (a 1), .int (1 : Int32)] zc_X11 DL_42 (tX11_alike hl0 (a 1) (1 : Int32) v1.2 hv3) zy_X11_alike ⟨w2008, w2009⟩ w2007 dL_law_1640 rfl (Nat.le_of_ble_eq_true rfl) (by omega) (by omega) rfl (Nat.le_of_ble_eq_true rfl) rfl kk) ?_
      refine zpc (of_decide_eq_true hqv3) ?_
      refine And.imp_right (fun kk => z_istore (pc := 1643) (ls' := [(6, .int v3.1), (5, .int v1.1), (0, .ref 950), (1, .ref 0), (2, .ref 42), (3, .ref 72), (4, .int i)]) hG [0, 1, 2, 3, 4, 5, 6] (by decide) rfl dL_law_1643 kk) ?_
      refine And.imp_right (fun kk => z_goto (pc := 1645) (tgt := 1967) hG dL_law_1645 rfl kk) ?_
      obtain rfl := Option.some.inj h
      refine And.imp_right (fun kk => z_sub (ls' := [(0, .ref 950), (1, .ref 0), (2, .ref 42), (3, .ref 72), (4, .int i)]) [2, 3, 4, 5, 6] rfl kk) ?_
      exact kf
  · replace h := zif_f hc h
    refine And.imp_right (fun kk => z_iconst (pc := 1608) hG kc_1 dL_law_1608 kk) ?_
    refine And.imp_right (fun kk => z_goto (pc := 1609) (tgt := 1613) hG dL_law_1609 rfl kk) ?_
    refine And.imp_right (fun kk => z_aload_n (pc := 1613) hG 3 rfl rfl dL_law_1613 kk) ?_
    replace h := zbind h
    obtain ⟨v4, hv4, h⟩ := h
    replace h := zchk_some h
    obtain ⟨hqv4, h⟩ := h
    refine And.imp_right (fun kk => z_csH (A' := A0 + (C / 64 - g.2.2.2 / 64)) (B' := B0 + 2 * (C - g.2.2.2)) (rest := []) hG hPx [.ref 0, .int (a 1), .int (1 : Int32), .ref 72] (tL_alike hl0 (a 1) (1 : Int32) g hv4) zyH_alike w1332 w1331 dL_law_1614 rfl (Nat.le_of_ble_eq_true rfl) (by omega) (by omega) rfl (Nat.le_of_ble_eq_true rfl) rfl kk) ?_
    refine zpc (of_decide_eq_true hqv4) ?_
    refine And.imp_right (fun kk => z_istore (pc := 1617) (ls' := [(5, .int v4.1), (0, .ref 950), (1, .ref 0), (2, .ref 42), (3, .ref 72), (4, .int i)]) hG [0, 1, 2, 3, 4, 5] (by decide) rfl dL_law_1617 kk) ?_
    refine And.imp_right (fun kk => z_aload_n (pc := 1619) hG 3 rfl rfl dL_law_1619 kk) ?_
    refine And.imp_right (fun kk => z_aload_n (pc := 1620) hG 1 rfl rfl dL_law_1620 kk) ?_
    refine And.imp_right (fun kk => z_iload (pc := 1621) hG 5 rfl dL_law_1621 kk) ?_
    refine And.imp_right (fun kk => z_iconst (pc := 1623) hG kc_1 dL_law_1623 kk) ?_
    refine And.imp_right (fun kk => z_iadd (pc := 1624) hG dL_law_1624 kk) ?_
    refine And.imp_right (fun kk => z_scr (pc := 1625) hG hS 1 (by decide) rfl dL_law_1625 kk) ?_
    refine And.imp_right (fun kk => z_aload_n (pc := 1626) hG 1 rfl rfl dL_law_1626 kk) ?_
    refine And.imp_right (fun kk => z_iload (pc := 1627) hG 5 rfl dL_law_1627 kk) ?_
    refine And.imp_right (fun kk => z_iconst (pc := 1629) hG kc_2 dL_law_1629 kk) ?_
    refine And.imp_right (fun kk => z_iadd (pc := 1630) hG dL_law_1630 kk) ?_
    refine And.imp_right (fun kk => z_scr (pc := 1631) hG hS 2 (by decide) rfl dL_law_1631 kk) ?_
    refine zbr (c := (a 2) = 0) (fun hc => ?_) (fun hc => ?_) (fun k1 k2 => z_if_eq (pc := 1632) (tgt := 1639) hG dL_law_1632 rfl k1 k2)
    · replace h := zif_t hc h
      refine And.imp_right (fun kk => z_iconst (pc := 1639) hG kc_0 dL_law_1639 kk) ?_
      replace h := zbind h
      obtain ⟨v5, hv5, h⟩ := h
      replace h := zchk_some h
      obtain ⟨hqv5, h⟩ := h
      refine And.imp_right (fun kk => z_cvI (A' := A0 + (C / 64 - v4.2.2.2.2 / 64)) (B' := B0 + 2 * (C - v4.2.2.2.2)) (nc := 0) (ns := 0) (rest := []) hG [.int (a 1), .int (0 : Int32)] zc_X11 DL_42 (tX11_alike hl0 (a 1) (0 : Int32) v4.2 hv5) zy_X11_alike ⟨w2008, w2009⟩ w2007 dL_law_1640 rfl (Nat.le_of_ble_eq_true rfl) (by omega) (by omega) rfl (Nat.le_of_ble_eq_true rfl) rfl kk) ?_
      refine zpc (of_decide_eq_true hqv5) ?_
      refine And.imp_right (fun kk => z_istore (pc := 1643) (ls' := [(6, .int v5.1), (5, .int v4.1), (0, .ref 950), (1, .ref 0), (2, .ref 42), (3, .ref 72), (4, .int i)]) hG [0, 1, 2, 3, 4, 5, 6] (by decide) rfl dL_law_1643 kk) ?_
      refine And.imp_right (fun kk => z_goto (pc := 1645) (tgt := 1967) hG dL_law_1645 rfl kk) ?_
      obtain rfl := Option.some.inj h
      refine And.imp_right (fun kk => z_sub (ls' := [(0, .ref 950), (1, .ref 0), (2, .ref 42), (3, .ref 72), (4, .int i)]) [2, 3, 4, 5, 6] rfl kk) ?_
      exact kf
    · replace h := zif_f hc h
      refine And.imp_right (fun kk => z_iconst (pc := 1635) hG kc_1 dL_law_1635 kk) ?_
      refine And.imp_right (fun kk => z_goto (pc := 1636) (tgt := 1640) hG dL_law_1636 rfl kk) ?_
      replace h := zbind h
      obtain ⟨v6, hv6, h⟩ := h
      replace h := zchk_some h
      obtain ⟨hqv6, h⟩ := h
      refine And.imp_right (fun kk => z_cvI (A' := A0 + (C / 64 - v4.2.2.2.2 / 64)) (B' := B0 + 2 * (C - v4.2.2.2.2)) (nc := 0) (ns := 0) (rest := []) hG [.int (a 1), .int (1 : Int32)] zc_X11 DL_42 (tX11_alike hl0 (a 1) (1 : Int32) v4.2 hv6) zy_X11_alike ⟨w2008, w2009⟩ w2007 dL_law_1640 rfl (Nat.le_of_ble_eq_true rfl) (by omega) (by omega) rfl (Nat.le_of_ble_eq_true rfl) rfl kk) ?_
      refine zpc (of_decide_eq_true hqv6) ?_
      refine And.imp_right (fun kk => z_istore (pc := 1643) (ls' := [(6, .int v6.1), (5, .int v4.1), (0, .ref 950), (1, .ref 0), (2, .ref 42), (3, .ref 72), (4, .int i)]) hG [0, 1, 2, 3, 4, 5, 6] (by decide) rfl dL_law_1643 kk) ?_
      refine And.imp_right (fun kk => z_goto (pc := 1645) (tgt := 1967) hG dL_law_1645 rfl kk) ?_
      obtain rfl := Option.some.inj h
      refine And.imp_right (fun kk => z_sub (ls' := [(0, .ref 950), (1, .ref 0), (2, .ref 42), (3, .ref 72), (4, .int i)]) [2, 3, 4, 5, 6] rfl kk) ?_
      exact kf
noncomputable def nS_39 (a : Nat → Int32) (g : zS) : Option zS :=
  (nL_near (a 1) (a 2) g).bind fun v1 => zchk (decide (v1.2.2.2.2 = g.2.2.2)) ((nX11_near (a 1) (a 2) v1.2).bind fun v2 => zchk (decide (v2.2.2.2.2 = v1.2.2.2.2)) ((nX11_thrown v2.2).bind fun v3 => if v3 = v1.1 then (if v1.1 = 0 then (if (lg_cmp (v2.2.2.1 72 (0 : Int32).toNatClampNeg) v2.1.toInt64) = 0 then (some v2.2) else (none)) else (some v2.2)) else (none)))
noncomputable def nU_39 (a : Nat → Int32) (g : zS) : Option zS :=
  (nL_near (a 1) (a 2) g).bind fun v1 => zchk (decide (v1.2.2.2.2 = g.2.2.2)) ((nX11_near (a 1) (a 2) v1.2).bind fun v2 => zchk (decide (v2.2.2.2.2 = v1.2.2.2.2)) (some v2.2))
set_option maxHeartbeats 1000000 in
theorem tS_39 {x : zXx} {i : Int32} {a : Nat → Int32} (hl0 : (zl0 x).flags = flags0) (hG : zG x cL_law 7 RL ret) (hPx : zPx x.2.2.2.2.1) (hS : zScr x i a) {A0 B0 C : Nat} (g : zS) {r : zS} (h : nU_39 a g = some r) (kf : zgr r C ∧ zK x 66 1967 [(0, .ref 950), (1, .ref 0), (2, .ref 42), (3, .ref 72), (4, .int i)] [] zD r (A0 + (C / 64 - r.2.2.2 / 64)) (B0 + 2 * (C - r.2.2.2))) : zgr g C ∧ zK x 66 1648 [(0, .ref 950), (1, .ref 0), (2, .ref 42), (3, .ref 72), (4, .int i)] [] zD g (A0 + 2 + (C / 64 - g.2.2.2 / 64)) (B0 + 12 + 2 * (C - g.2.2.2)) := by
  unfold nU_39 at h
  refine And.imp_right (fun kk => z_aload_n (pc := 1648) hG 1 rfl rfl dL_law_1648 kk) ?_
  refine And.imp_right (fun kk => z_aload_n (pc := 1649) hG 0 rfl rfl dL_law_1649 kk) ?_
  refine And.imp_right (fun kk => z_iload (pc := 1650) hG 4 rfl dL_law_1650 kk) ?_
  refine And.imp_right (fun kk => z_iconst (pc := 1652) hG kc_1 dL_law_1652 kk) ?_
  refine And.imp_right (fun kk => z_iadd (pc := 1653) hG dL_law_1653 kk) ?_
  refine And.imp_right (fun kk => z_scr (pc := 1654) hG hS 1 (by decide) rfl dL_law_1654 kk) ?_
  refine And.imp_right (fun kk => z_aload_n (pc := 1655) hG 0 rfl rfl dL_law_1655 kk) ?_
  refine And.imp_right (fun kk => z_iload (pc := 1656) hG 4 rfl dL_law_1656 kk) ?_
  refine And.imp_right (fun kk => z_iconst (pc := 1658) hG kc_2 dL_law_1658 kk) ?_
  refine And.imp_right (fun kk => z_iadd (pc := 1659) hG dL_law_1659 kk) ?_
  refine And.imp_right (fun kk => z_scr (pc := 1660) hG hS 2 (by decide) rfl dL_law_1660 kk) ?_
  refine And.imp_right (fun kk => z_aload_n (pc := 1661) hG 3 rfl rfl dL_law_1661 kk) ?_
  replace h := zbind h
  obtain ⟨v1, hv1, h⟩ := h
  replace h := zchk_some h
  obtain ⟨hqv1, h⟩ := h
  refine And.imp_right (fun kk => z_csH (A' := A0 + (C / 64 - g.2.2.2 / 64)) (B' := B0 + 2 * (C - g.2.2.2)) (rest := []) hG hPx [.ref 0, .int (a 1), .int (a 2), .ref 72] (tL_near hl0 (a 1) (a 2) g hv1) zyH_near w1347 w1346 dL_law_1662 rfl (Nat.le_of_ble_eq_true rfl) (by omega) (by omega) rfl (Nat.le_of_ble_eq_true rfl) rfl kk) ?_
  refine zpc (of_decide_eq_true hqv1) ?_
  refine And.imp_right (fun kk => z_istore (pc := 1665) (ls' := [(5, .int v1.1), (0, .ref 950), (1, .ref 0), (2, .ref 42), (3, .ref 72), (4, .int i)]) hG [0, 1, 2, 3, 4, 5] (by decide) rfl dL_law_1665 kk) ?_
  refine And.imp_right (fun kk => z_aload_n (pc := 1667) hG 3 rfl rfl dL_law_1667 kk) ?_
  refine And.imp_right (fun kk => z_aload_n (pc := 1668) hG 1 rfl rfl dL_law_1668 kk) ?_
  refine And.imp_right (fun kk => z_iload (pc := 1669) hG 5 rfl dL_law_1669 kk) ?_
  refine And.imp_right (fun kk => z_iconst (pc := 1671) hG kc_1 dL_law_1671 kk) ?_
  refine And.imp_right (fun kk => z_iadd (pc := 1672) hG dL_law_1672 kk) ?_
  refine And.imp_right (fun kk => z_scr (pc := 1673) hG hS 1 (by decide) rfl dL_law_1673 kk) ?_
  refine And.imp_right (fun kk => z_aload_n (pc := 1674) hG 1 rfl rfl dL_law_1674 kk) ?_
  refine And.imp_right (fun kk => z_iload (pc := 1675) hG 5 rfl dL_law_1675 kk) ?_
  refine And.imp_right (fun kk => z_iconst (pc := 1677) hG kc_2 dL_law_1677 kk) ?_
  refine And.imp_right (fun kk => z_iadd (pc := 1678) hG dL_law_1678 kk) ?_
  refine And.imp_right (fun kk => z_scr (pc := 1679) hG hS 2 (by decide) rfl dL_law_1679 kk) ?_
  replace h := zbind h
  obtain ⟨v2, hv2, h⟩ := h
  replace h := zchk_some h
  obtain ⟨hqv2, h⟩ := h
  refine And.imp_right (fun kk => z_cvI (A' := A0 + (C / 64 - v1.2.2.2.2 / 64)) (B' := B0 + 2 * (C - v1.2.2.2.2)) (nc := 0) (ns := 0) (rest := []) hG [.int (a 1), .int (a 2)] zc_X11 DL_42 (tX11_near hl0 (a 1) (a 2) v1.2 hv2) zy_X11_near ⟨w2016, w2017⟩ w2015 dL_law_1680 rfl (Nat.le_of_ble_eq_true rfl) (by omega) (by omega) rfl (Nat.le_of_ble_eq_true rfl) rfl kk) ?_
  refine zpc (of_decide_eq_true hqv2) ?_
  refine And.imp_right (fun kk => z_istore (pc := 1683) (ls' := [(6, .int v2.1), (5, .int v1.1), (0, .ref 950), (1, .ref 0), (2, .ref 42), (3, .ref 72), (4, .int i)]) hG [0, 1, 2, 3, 4, 5, 6] (by decide) rfl dL_law_1683 kk) ?_
  refine And.imp_right (fun kk => z_goto (pc := 1685) (tgt := 1967) hG dL_law_1685 rfl kk) ?_
  obtain rfl := Option.some.inj h
  refine And.imp_right (fun kk => z_sub (ls' := [(0, .ref 950), (1, .ref 0), (2, .ref 42), (3, .ref 72), (4, .int i)]) [2, 3, 4, 5, 6] rfl kk) ?_
  exact kf
noncomputable def nS_40 (a : Nat → Int32) (g : zS) : Option zS :=
  (nL_bunch (a 1) (a 2) g).bind fun v1 => zchk (decide (v1.2.2.2.2 = g.2.2.2)) ((nX11_bunch (a 1) (a 2) v1.2).bind fun v2 => zchk (decide (v2.2.2.2.2 = v1.2.2.2.2)) ((nX11_thrown v2.2).bind fun v3 => if v3 = v1.1 then (if v1.1 = 0 then (if (lg_cmp (v2.2.2.1 72 (0 : Int32).toNatClampNeg) v2.1.toInt64) = 0 then (some v2.2) else (none)) else (some v2.2)) else (none)))
noncomputable def nU_40 (a : Nat → Int32) (g : zS) : Option zS :=
  (nL_bunch (a 1) (a 2) g).bind fun v1 => zchk (decide (v1.2.2.2.2 = g.2.2.2)) ((nX11_bunch (a 1) (a 2) v1.2).bind fun v2 => zchk (decide (v2.2.2.2.2 = v1.2.2.2.2)) (some v2.2))
set_option maxHeartbeats 1000000 in
theorem tS_40 {x : zXx} {i : Int32} {a : Nat → Int32} (hl0 : (zl0 x).flags = flags0) (hG : zG x cL_law 7 RL ret) (hPx : zPx x.2.2.2.2.1) (hS : zScr x i a) {A0 B0 C : Nat} (g : zS) {r : zS} (h : nU_40 a g = some r) (kf : zgr r C ∧ zK x 66 1967 [(0, .ref 950), (1, .ref 0), (2, .ref 42), (3, .ref 72), (4, .int i)] [] zD r (A0 + (C / 64 - r.2.2.2 / 64)) (B0 + 2 * (C - r.2.2.2))) : zgr g C ∧ zK x 66 1688 [(0, .ref 950), (1, .ref 0), (2, .ref 42), (3, .ref 72), (4, .int i)] [] zD g (A0 + 1 + (C / 64 - g.2.2.2 / 64)) (B0 + 6 + 2 * (C - g.2.2.2)) := by
  unfold nU_40 at h
  refine And.imp_right (fun kk => z_aload_n (pc := 1688) hG 1 rfl rfl dL_law_1688 kk) ?_
  refine And.imp_right (fun kk => z_aload_n (pc := 1689) hG 0 rfl rfl dL_law_1689 kk) ?_
  refine And.imp_right (fun kk => z_iload (pc := 1690) hG 4 rfl dL_law_1690 kk) ?_
  refine And.imp_right (fun kk => z_iconst (pc := 1692) hG kc_1 dL_law_1692 kk) ?_
  refine And.imp_right (fun kk => z_iadd (pc := 1693) hG dL_law_1693 kk) ?_
  refine And.imp_right (fun kk => z_scr (pc := 1694) hG hS 1 (by decide) rfl dL_law_1694 kk) ?_
  refine And.imp_right (fun kk => z_aload_n (pc := 1695) hG 0 rfl rfl dL_law_1695 kk) ?_
  refine And.imp_right (fun kk => z_iload (pc := 1696) hG 4 rfl dL_law_1696 kk) ?_
  refine And.imp_right (fun kk => z_iconst (pc := 1698) hG kc_2 dL_law_1698 kk) ?_
  refine And.imp_right (fun kk => z_iadd (pc := 1699) hG dL_law_1699 kk) ?_
  refine And.imp_right (fun kk => z_scr (pc := 1700) hG hS 2 (by decide) rfl dL_law_1700 kk) ?_
  refine And.imp_right (fun kk => z_aload_n (pc := 1701) hG 3 rfl rfl dL_law_1701 kk) ?_
  replace h := zbind h
  obtain ⟨v1, hv1, h⟩ := h
  replace h := zchk_some h
  obtain ⟨hqv1, h⟩ := h
  refine And.imp_right (fun kk => z_csH (A' := A0 + (C / 64 - g.2.2.2 / 64)) (B' := B0 + 2 * (C - g.2.2.2)) (rest := []) hG hPx [.ref 0, .int (a 1), .int (a 2), .ref 72] (tL_bunch hl0 (a 1) (a 2) g hv1) zyH_bunch w1355 w1354 dL_law_1702 rfl (Nat.le_of_ble_eq_true rfl) (by omega) (by omega) rfl (Nat.le_of_ble_eq_true rfl) rfl kk) ?_
  refine zpc (of_decide_eq_true hqv1) ?_
  refine And.imp_right (fun kk => z_istore (pc := 1705) (ls' := [(5, .int v1.1), (0, .ref 950), (1, .ref 0), (2, .ref 42), (3, .ref 72), (4, .int i)]) hG [0, 1, 2, 3, 4, 5] (by decide) rfl dL_law_1705 kk) ?_
  refine And.imp_right (fun kk => z_aload_n (pc := 1707) hG 3 rfl rfl dL_law_1707 kk) ?_
  refine And.imp_right (fun kk => z_aload_n (pc := 1708) hG 1 rfl rfl dL_law_1708 kk) ?_
  refine And.imp_right (fun kk => z_iload (pc := 1709) hG 5 rfl dL_law_1709 kk) ?_
  refine And.imp_right (fun kk => z_iconst (pc := 1711) hG kc_1 dL_law_1711 kk) ?_
  refine And.imp_right (fun kk => z_iadd (pc := 1712) hG dL_law_1712 kk) ?_
  refine And.imp_right (fun kk => z_scr (pc := 1713) hG hS 1 (by decide) rfl dL_law_1713 kk) ?_
  refine And.imp_right (fun kk => z_aload_n (pc := 1714) hG 1 rfl rfl dL_law_1714 kk) ?_
  refine And.imp_right (fun kk => z_iload (pc := 1715) hG 5 rfl dL_law_1715 kk) ?_
  refine And.imp_right (fun kk => z_iconst (pc := 1717) hG kc_2 dL_law_1717 kk) ?_
  refine And.imp_right (fun kk => z_iadd (pc := 1718) hG dL_law_1718 kk) ?_
  refine And.imp_right (fun kk => z_scr (pc := 1719) hG hS 2 (by decide) rfl dL_law_1719 kk) ?_
  replace h := zbind h
  obtain ⟨v2, hv2, h⟩ := h
  replace h := zchk_some h
  obtain ⟨hqv2, h⟩ := h
  refine And.imp_right (fun kk => z_cvI (A' := A0 + (C / 64 - v1.2.2.2.2 / 64)) (B' := B0 + 2 * (C - v1.2.2.2.2)) (nc := 0) (ns := 0) (rest := []) hG [.int (a 1), .int (a 2)] zc_X11 DL_42 (tX11_bunch hl0 (a 1) (a 2) v1.2 hv2) zy_X11_bunch ⟨w2020, w2021⟩ w2019 dL_law_1720 rfl (Nat.le_of_ble_eq_true rfl) (by omega) (by omega) rfl (Nat.le_of_ble_eq_true rfl) rfl kk) ?_
  refine zpc (of_decide_eq_true hqv2) ?_
  refine And.imp_right (fun kk => z_istore (pc := 1723) (ls' := [(6, .int v2.1), (5, .int v1.1), (0, .ref 950), (1, .ref 0), (2, .ref 42), (3, .ref 72), (4, .int i)]) hG [0, 1, 2, 3, 4, 5, 6] (by decide) rfl dL_law_1723 kk) ?_
  refine And.imp_right (fun kk => z_goto (pc := 1725) (tgt := 1967) hG dL_law_1725 rfl kk) ?_
  obtain rfl := Option.some.inj h
  refine And.imp_right (fun kk => z_sub (ls' := [(0, .ref 950), (1, .ref 0), (2, .ref 42), (3, .ref 72), (4, .int i)]) [2, 3, 4, 5, 6] rfl kk) ?_
  exact kf
noncomputable def nS_41 (a : Nat → Int32) (g : zS) : Option zS :=
  (nL_changes (a 1) g).bind fun v1 => zchk (decide (v1.2.2.2.2 = g.2.2.2)) ((nX11_changes (a 1) v1.2).bind fun v2 => zchk (decide (v2.2.2.2.2 = v1.2.2.2.2)) ((nX11_thrown v2.2).bind fun v3 => if v3 = v1.1 then (if v1.1 = 0 then (if (lg_cmp (v2.2.2.1 72 (0 : Int32).toNatClampNeg) v2.1.toInt64) = 0 then (some v2.2) else (none)) else (some v2.2)) else (none)))
noncomputable def nU_41 (a : Nat → Int32) (g : zS) : Option zS :=
  (nL_changes (a 1) g).bind fun v1 => zchk (decide (v1.2.2.2.2 = g.2.2.2)) ((nX11_changes (a 1) v1.2).bind fun v2 => zchk (decide (v2.2.2.2.2 = v1.2.2.2.2)) (some v2.2))
set_option maxHeartbeats 1000000 in
theorem tS_41 {x : zXx} {i : Int32} {a : Nat → Int32} (hl0 : (zl0 x).flags = flags0) (hG : zG x cL_law 7 RL ret) (hPx : zPx x.2.2.2.2.1) (hS : zScr x i a) {A0 B0 C : Nat} (g : zS) {r : zS} (h : nU_41 a g = some r) (kf : zgr r C ∧ zK x 66 1967 [(0, .ref 950), (1, .ref 0), (2, .ref 42), (3, .ref 72), (4, .int i)] [] zD r (A0 + (C / 64 - r.2.2.2 / 64)) (B0 + 2 * (C - r.2.2.2))) : zgr g C ∧ zK x 66 1728 [(0, .ref 950), (1, .ref 0), (2, .ref 42), (3, .ref 72), (4, .int i)] [] zD g (A0 + 1 + (C / 64 - g.2.2.2 / 64)) (B0 + 6 + 2 * (C - g.2.2.2)) := by
  unfold nU_41 at h
  refine And.imp_right (fun kk => z_aload_n (pc := 1728) hG 1 rfl rfl dL_law_1728 kk) ?_
  refine And.imp_right (fun kk => z_aload_n (pc := 1729) hG 0 rfl rfl dL_law_1729 kk) ?_
  refine And.imp_right (fun kk => z_iload (pc := 1730) hG 4 rfl dL_law_1730 kk) ?_
  refine And.imp_right (fun kk => z_iconst (pc := 1732) hG kc_1 dL_law_1732 kk) ?_
  refine And.imp_right (fun kk => z_iadd (pc := 1733) hG dL_law_1733 kk) ?_
  refine And.imp_right (fun kk => z_scr (pc := 1734) hG hS 1 (by decide) rfl dL_law_1734 kk) ?_
  refine And.imp_right (fun kk => z_aload_n (pc := 1735) hG 3 rfl rfl dL_law_1735 kk) ?_
  replace h := zbind h
  obtain ⟨v1, hv1, h⟩ := h
  replace h := zchk_some h
  obtain ⟨hqv1, h⟩ := h
  refine And.imp_right (fun kk => z_csH (A' := A0 + (C / 64 - g.2.2.2 / 64)) (B' := B0 + 2 * (C - g.2.2.2)) (rest := []) hG hPx [.ref 0, .int (a 1), .ref 72] (tL_changes hl0 (a 1) g hv1) zyH_changes w1377 w1376 dL_law_1736 rfl (Nat.le_of_ble_eq_true rfl) (by omega) (by omega) rfl (Nat.le_of_ble_eq_true rfl) rfl kk) ?_
  refine zpc (of_decide_eq_true hqv1) ?_
  refine And.imp_right (fun kk => z_istore (pc := 1739) (ls' := [(5, .int v1.1), (0, .ref 950), (1, .ref 0), (2, .ref 42), (3, .ref 72), (4, .int i)]) hG [0, 1, 2, 3, 4, 5] (by decide) rfl dL_law_1739 kk) ?_
  refine And.imp_right (fun kk => z_aload_n (pc := 1741) hG 3 rfl rfl dL_law_1741 kk) ?_
  refine And.imp_right (fun kk => z_aload_n (pc := 1742) hG 1 rfl rfl dL_law_1742 kk) ?_
  refine And.imp_right (fun kk => z_iload (pc := 1743) hG 5 rfl dL_law_1743 kk) ?_
  refine And.imp_right (fun kk => z_iconst (pc := 1745) hG kc_1 dL_law_1745 kk) ?_
  refine And.imp_right (fun kk => z_iadd (pc := 1746) hG dL_law_1746 kk) ?_
  refine And.imp_right (fun kk => z_scr (pc := 1747) hG hS 1 (by decide) rfl dL_law_1747 kk) ?_
  replace h := zbind h
  obtain ⟨v2, hv2, h⟩ := h
  replace h := zchk_some h
  obtain ⟨hqv2, h⟩ := h
  refine And.imp_right (fun kk => z_cvI (A' := A0 + (C / 64 - v1.2.2.2.2 / 64)) (B' := B0 + 2 * (C - v1.2.2.2.2)) (nc := 0) (ns := 0) (rest := []) hG [.int (a 1)] zc_X11 DL_42 (tX11_changes hl0 (a 1) v1.2 hv2) zy_X11_changes ⟨w2024, w2025⟩ w2023 dL_law_1748 rfl (Nat.le_of_ble_eq_true rfl) (by omega) (by omega) rfl (Nat.le_of_ble_eq_true rfl) rfl kk) ?_
  refine zpc (of_decide_eq_true hqv2) ?_
  refine And.imp_right (fun kk => z_istore (pc := 1751) (ls' := [(6, .int v2.1), (5, .int v1.1), (0, .ref 950), (1, .ref 0), (2, .ref 42), (3, .ref 72), (4, .int i)]) hG [0, 1, 2, 3, 4, 5, 6] (by decide) rfl dL_law_1751 kk) ?_
  refine And.imp_right (fun kk => z_goto (pc := 1753) (tgt := 1967) hG dL_law_1753 rfl kk) ?_
  obtain rfl := Option.some.inj h
  refine And.imp_right (fun kk => z_sub (ls' := [(0, .ref 950), (1, .ref 0), (2, .ref 42), (3, .ref 72), (4, .int i)]) [2, 3, 4, 5, 6] rfl kk) ?_
  exact kf
noncomputable def nS_42 (a : Nat → Int32) (g : zS) : Option zS :=
  (nX10_unlike g).bind fun v1 => zchk (decide (v1.2.2.2.2 = g.2.2.2)) ((nX11_unlike v1.2).bind fun v2 => zchk (decide (v2.2.2.2.2 = v1.2.2.2.2)) (if v1.1 = v2.1 then (some v2.2) else (none)))
noncomputable def nU_42 (a : Nat → Int32) (g : zS) : Option zS :=
  (nX10_unlike g).bind fun v1 => zchk (decide (v1.2.2.2.2 = g.2.2.2)) ((nX11_unlike v1.2).bind fun v2 => zchk (decide (v2.2.2.2.2 = v1.2.2.2.2)) (some v2.2))
set_option maxHeartbeats 1000000 in
theorem tS_42 {x : zXx} {i : Int32} {a : Nat → Int32} (hl0 : (zl0 x).flags = flags0) (hG : zG x cL_law 7 RL ret) (hPx : zPx x.2.2.2.2.1) (hS : zScr x i a) {A0 B0 C : Nat} (g : zS) {r : zS} (h : nU_42 a g = some r) (kf : zgr r C ∧ zK x 66 1967 [(0, .ref 950), (1, .ref 0), (2, .ref 42), (3, .ref 72), (4, .int i)] [] zD r (A0 + (C / 64 - r.2.2.2 / 64)) (B0 + 2 * (C - r.2.2.2))) : zgr g C ∧ zK x 66 1756 [(0, .ref 950), (1, .ref 0), (2, .ref 42), (3, .ref 72), (4, .int i)] [] zD g (A0 + 0 + (C / 64 - g.2.2.2 / 64)) (B0 + 0 + 2 * (C - g.2.2.2)) := by
  unfold nU_42 at h
  refine And.imp_right (fun kk => z_aload_n (pc := 1756) hG 1 rfl rfl dL_law_1756 kk) ?_
  replace h := zbind h
  obtain ⟨v1, hv1, h⟩ := h
  replace h := zchk_some h
  obtain ⟨hqv1, h⟩ := h
  refine And.imp_right (fun kk => z_cvI (A' := A0 + (C / 64 - g.2.2.2 / 64)) (B' := B0 + 2 * (C - g.2.2.2)) (nc := 0) (ns := 0) (rest := []) hG [] zc_X10 DL_0 (tX10_unlike hl0  g hv1) zy_X10_unlike ⟨w514, w515⟩ w513 dL_law_1757 rfl (Nat.le_of_ble_eq_true rfl) (by omega) (by omega) rfl (Nat.le_of_ble_eq_true rfl) rfl kk) ?_
  refine zpc (of_decide_eq_true hqv1) ?_
  refine And.imp_right (fun kk => z_pop (pc := 1760) hG rfl dL_law_1760 kk) ?_
  refine And.imp_right (fun kk => z_aload_n (pc := 1761) hG 2 rfl rfl dL_law_1761 kk) ?_
  replace h := zbind h
  obtain ⟨v2, hv2, h⟩ := h
  replace h := zchk_some h
  obtain ⟨hqv2, h⟩ := h
  refine And.imp_right (fun kk => z_cvI (A' := A0 + (C / 64 - v1.2.2.2.2 / 64)) (B' := B0 + 2 * (C - v1.2.2.2.2)) (nc := 0) (ns := 0) (rest := []) hG [] zc_X11 DL_42 (tX11_unlike hl0  v1.2 hv2) zy_X11_unlike ⟨w2028, w2029⟩ w2027 dL_law_1762 rfl (Nat.le_of_ble_eq_true rfl) (by omega) (by omega) rfl (Nat.le_of_ble_eq_true rfl) rfl kk) ?_
  refine zpc (of_decide_eq_true hqv2) ?_
  refine And.imp_right (fun kk => z_pop (pc := 1765) hG rfl dL_law_1765 kk) ?_
  refine And.imp_right (fun kk => z_goto (pc := 1766) (tgt := 1967) hG dL_law_1766 rfl kk) ?_
  obtain rfl := Option.some.inj h
  exact kf
noncomputable def nS_43 (a : Nat → Int32) (g : zS) : Option zS :=
  (nL_group (a 1) (a 2) g).bind fun v1 => zchk (decide (v1.2.2.2.2 = g.2.2.2)) ((nX11_group (a 1) (a 2) v1.2).bind fun v2 => zchk (decide (v2.2.2.2.2 = v1.2.2.2.2)) ((nX11_thrown v2.2).bind fun v3 => if v3 = v1.1 then (if v1.1 = 0 then (if (lg_cmp (v2.2.2.1 72 (0 : Int32).toNatClampNeg) v2.1.toInt64) = 0 then (some v2.2) else (none)) else (some v2.2)) else (none)))
noncomputable def nU_43 (a : Nat → Int32) (g : zS) : Option zS :=
  (nL_group (a 1) (a 2) g).bind fun v1 => zchk (decide (v1.2.2.2.2 = g.2.2.2)) ((nX11_group (a 1) (a 2) v1.2).bind fun v2 => zchk (decide (v2.2.2.2.2 = v1.2.2.2.2)) (some v2.2))
set_option maxHeartbeats 1000000 in
theorem tS_43 {x : zXx} {i : Int32} {a : Nat → Int32} (hl0 : (zl0 x).flags = flags0) (hG : zG x cL_law 7 RL ret) (hPx : zPx x.2.2.2.2.1) (hS : zScr x i a) {A0 B0 C : Nat} (g : zS) {r : zS} (h : nU_43 a g = some r) (kf : zgr r C ∧ zK x 66 1967 [(0, .ref 950), (1, .ref 0), (2, .ref 42), (3, .ref 72), (4, .int i)] [] zD r (A0 + (C / 64 - r.2.2.2 / 64)) (B0 + 2 * (C - r.2.2.2))) : zgr g C ∧ zK x 66 1769 [(0, .ref 950), (1, .ref 0), (2, .ref 42), (3, .ref 72), (4, .int i)] [] zD g (A0 + 2 + (C / 64 - g.2.2.2 / 64)) (B0 + 12 + 2 * (C - g.2.2.2)) := by
  unfold nU_43 at h
  refine And.imp_right (fun kk => z_aload_n (pc := 1769) hG 1 rfl rfl dL_law_1769 kk) ?_
  refine And.imp_right (fun kk => z_aload_n (pc := 1770) hG 0 rfl rfl dL_law_1770 kk) ?_
  refine And.imp_right (fun kk => z_iload (pc := 1771) hG 4 rfl dL_law_1771 kk) ?_
  refine And.imp_right (fun kk => z_iconst (pc := 1773) hG kc_1 dL_law_1773 kk) ?_
  refine And.imp_right (fun kk => z_iadd (pc := 1774) hG dL_law_1774 kk) ?_
  refine And.imp_right (fun kk => z_scr (pc := 1775) hG hS 1 (by decide) rfl dL_law_1775 kk) ?_
  refine And.imp_right (fun kk => z_aload_n (pc := 1776) hG 0 rfl rfl dL_law_1776 kk) ?_
  refine And.imp_right (fun kk => z_iload (pc := 1777) hG 4 rfl dL_law_1777 kk) ?_
  refine And.imp_right (fun kk => z_iconst (pc := 1779) hG kc_2 dL_law_1779 kk) ?_
  refine And.imp_right (fun kk => z_iadd (pc := 1780) hG dL_law_1780 kk) ?_
  refine And.imp_right (fun kk => z_scr (pc := 1781) hG hS 2 (by decide) rfl dL_law_1781 kk) ?_
  refine And.imp_right (fun kk => z_aload_n (pc := 1782) hG 3 rfl rfl dL_law_1782 kk) ?_
  replace h := zbind h
  obtain ⟨v1, hv1, h⟩ := h
  replace h := zchk_some h
  obtain ⟨hqv1, h⟩ := h
  refine And.imp_right (fun kk => z_csH (A' := A0 + (C / 64 - g.2.2.2 / 64)) (B' := B0 + 2 * (C - g.2.2.2)) (rest := []) hG hPx [.ref 0, .int (a 1), .int (a 2), .ref 72] (tL_group hl0 (a 1) (a 2) g hv1) zyH_group w1389 w1388 dL_law_1783 rfl (Nat.le_of_ble_eq_true rfl) (by omega) (by omega) rfl (Nat.le_of_ble_eq_true rfl) rfl kk) ?_
  refine zpc (of_decide_eq_true hqv1) ?_
  refine And.imp_right (fun kk => z_istore (pc := 1786) (ls' := [(5, .int v1.1), (0, .ref 950), (1, .ref 0), (2, .ref 42), (3, .ref 72), (4, .int i)]) hG [0, 1, 2, 3, 4, 5] (by decide) rfl dL_law_1786 kk) ?_
  refine And.imp_right (fun kk => z_aload_n (pc := 1788) hG 3 rfl rfl dL_law_1788 kk) ?_
  refine And.imp_right (fun kk => z_aload_n (pc := 1789) hG 1 rfl rfl dL_law_1789 kk) ?_
  refine And.imp_right (fun kk => z_iload (pc := 1790) hG 5 rfl dL_law_1790 kk) ?_
  refine And.imp_right (fun kk => z_iconst (pc := 1792) hG kc_1 dL_law_1792 kk) ?_
  refine And.imp_right (fun kk => z_iadd (pc := 1793) hG dL_law_1793 kk) ?_
  refine And.imp_right (fun kk => z_scr (pc := 1794) hG hS 1 (by decide) rfl dL_law_1794 kk) ?_
  refine And.imp_right (fun kk => z_aload_n (pc := 1795) hG 1 rfl rfl dL_law_1795 kk) ?_
  refine And.imp_right (fun kk => z_iload (pc := 1796) hG 5 rfl dL_law_1796 kk) ?_
  refine And.imp_right (fun kk => z_iconst (pc := 1798) hG kc_2 dL_law_1798 kk) ?_
  refine And.imp_right (fun kk => z_iadd (pc := 1799) hG dL_law_1799 kk) ?_
  refine And.imp_right (fun kk => z_scr (pc := 1800) hG hS 2 (by decide) rfl dL_law_1800 kk) ?_
  replace h := zbind h
  obtain ⟨v2, hv2, h⟩ := h
  replace h := zchk_some h
  obtain ⟨hqv2, h⟩ := h
  refine And.imp_right (fun kk => z_cvI (A' := A0 + (C / 64 - v1.2.2.2.2 / 64)) (B' := B0 + 2 * (C - v1.2.2.2.2)) (nc := 0) (ns := 0) (rest := []) hG [.int (a 1), .int (a 2)] zc_X11 DL_42 (tX11_group hl0 (a 1) (a 2) v1.2 hv2) zy_X11_group ⟨w2032, w2033⟩ w2031 dL_law_1801 rfl (Nat.le_of_ble_eq_true rfl) (by omega) (by omega) rfl (Nat.le_of_ble_eq_true rfl) rfl kk) ?_
  refine zpc (of_decide_eq_true hqv2) ?_
  refine And.imp_right (fun kk => z_istore (pc := 1804) (ls' := [(6, .int v2.1), (5, .int v1.1), (0, .ref 950), (1, .ref 0), (2, .ref 42), (3, .ref 72), (4, .int i)]) hG [0, 1, 2, 3, 4, 5, 6] (by decide) rfl dL_law_1804 kk) ?_
  refine And.imp_right (fun kk => z_goto (pc := 1806) (tgt := 1967) hG dL_law_1806 rfl kk) ?_
  obtain rfl := Option.some.inj h
  refine And.imp_right (fun kk => z_sub (ls' := [(0, .ref 950), (1, .ref 0), (2, .ref 42), (3, .ref 72), (4, .int i)]) [2, 3, 4, 5, 6] rfl kk) ?_
  exact kf
noncomputable def nS_44 (a : Nat → Int32) (g : zS) : Option zS :=
  (nL_usual (a 1) (a 2) g).bind fun v1 => zchk (decide (v1.2.2.2.2 = g.2.2.2)) ((nX11_usual (a 1) (a 2) v1.2).bind fun v2 => zchk (decide (v2.2.2.2.2 = v1.2.2.2.2)) ((nX11_thrown v2.2).bind fun v3 => if v3 = v1.1 then (if v1.1 = 0 then (if (lg_cmp (v2.2.2.1 72 (0 : Int32).toNatClampNeg) v2.1.toInt64) = 0 then (some v2.2) else (none)) else (some v2.2)) else (none)))
noncomputable def nU_44 (a : Nat → Int32) (g : zS) : Option zS :=
  (nL_usual (a 1) (a 2) g).bind fun v1 => zchk (decide (v1.2.2.2.2 = g.2.2.2)) ((nX11_usual (a 1) (a 2) v1.2).bind fun v2 => zchk (decide (v2.2.2.2.2 = v1.2.2.2.2)) (some v2.2))
set_option maxHeartbeats 1000000 in
theorem tS_44 {x : zXx} {i : Int32} {a : Nat → Int32} (hl0 : (zl0 x).flags = flags0) (hG : zG x cL_law 7 RL ret) (hPx : zPx x.2.2.2.2.1) (hS : zScr x i a) {A0 B0 C : Nat} (g : zS) {r : zS} (h : nU_44 a g = some r) (kf : zgr r C ∧ zK x 66 1967 [(0, .ref 950), (1, .ref 0), (2, .ref 42), (3, .ref 72), (4, .int i)] [] zD r (A0 + (C / 64 - r.2.2.2 / 64)) (B0 + 2 * (C - r.2.2.2))) : zgr g C ∧ zK x 66 1809 [(0, .ref 950), (1, .ref 0), (2, .ref 42), (3, .ref 72), (4, .int i)] [] zD g (A0 + 2 + (C / 64 - g.2.2.2 / 64)) (B0 + 12 + 2 * (C - g.2.2.2)) := by
  unfold nU_44 at h
  refine And.imp_right (fun kk => z_aload_n (pc := 1809) hG 1 rfl rfl dL_law_1809 kk) ?_
  refine And.imp_right (fun kk => z_aload_n (pc := 1810) hG 0 rfl rfl dL_law_1810 kk) ?_
  refine And.imp_right (fun kk => z_iload (pc := 1811) hG 4 rfl dL_law_1811 kk) ?_
  refine And.imp_right (fun kk => z_iconst (pc := 1813) hG kc_1 dL_law_1813 kk) ?_
  refine And.imp_right (fun kk => z_iadd (pc := 1814) hG dL_law_1814 kk) ?_
  refine And.imp_right (fun kk => z_scr (pc := 1815) hG hS 1 (by decide) rfl dL_law_1815 kk) ?_
  refine And.imp_right (fun kk => z_aload_n (pc := 1816) hG 0 rfl rfl dL_law_1816 kk) ?_
  refine And.imp_right (fun kk => z_iload (pc := 1817) hG 4 rfl dL_law_1817 kk) ?_
  refine And.imp_right (fun kk => z_iconst (pc := 1819) hG kc_2 dL_law_1819 kk) ?_
  refine And.imp_right (fun kk => z_iadd (pc := 1820) hG dL_law_1820 kk) ?_
  refine And.imp_right (fun kk => z_scr (pc := 1821) hG hS 2 (by decide) rfl dL_law_1821 kk) ?_
  refine And.imp_right (fun kk => z_aload_n (pc := 1822) hG 3 rfl rfl dL_law_1822 kk) ?_
  replace h := zbind h
  obtain ⟨v1, hv1, h⟩ := h
  replace h := zchk_some h
  obtain ⟨hqv1, h⟩ := h
  refine And.imp_right (fun kk => z_csH (A' := A0 + (C / 64 - g.2.2.2 / 64)) (B' := B0 + 2 * (C - g.2.2.2)) (rest := []) hG hPx [.ref 0, .int (a 1), .int (a 2), .ref 72] (tL_usual hl0 (a 1) (a 2) g hv1) zyH_usual w1404 w1403 dL_law_1823 rfl (Nat.le_of_ble_eq_true rfl) (by omega) (by omega) rfl (Nat.le_of_ble_eq_true rfl) rfl kk) ?_
  refine zpc (of_decide_eq_true hqv1) ?_
  refine And.imp_right (fun kk => z_istore (pc := 1826) (ls' := [(5, .int v1.1), (0, .ref 950), (1, .ref 0), (2, .ref 42), (3, .ref 72), (4, .int i)]) hG [0, 1, 2, 3, 4, 5] (by decide) rfl dL_law_1826 kk) ?_
  refine And.imp_right (fun kk => z_aload_n (pc := 1828) hG 3 rfl rfl dL_law_1828 kk) ?_
  refine And.imp_right (fun kk => z_aload_n (pc := 1829) hG 1 rfl rfl dL_law_1829 kk) ?_
  refine And.imp_right (fun kk => z_iload (pc := 1830) hG 5 rfl dL_law_1830 kk) ?_
  refine And.imp_right (fun kk => z_iconst (pc := 1832) hG kc_1 dL_law_1832 kk) ?_
  refine And.imp_right (fun kk => z_iadd (pc := 1833) hG dL_law_1833 kk) ?_
  refine And.imp_right (fun kk => z_scr (pc := 1834) hG hS 1 (by decide) rfl dL_law_1834 kk) ?_
  refine And.imp_right (fun kk => z_aload_n (pc := 1835) hG 1 rfl rfl dL_law_1835 kk) ?_
  refine And.imp_right (fun kk => z_iload (pc := 1836) hG 5 rfl dL_law_1836 kk) ?_
  refine And.imp_right (fun kk => z_iconst (pc := 1838) hG kc_2 dL_law_1838 kk) ?_
  refine And.imp_right (fun kk => z_iadd (pc := 1839) hG dL_law_1839 kk) ?_
  refine And.imp_right (fun kk => z_scr (pc := 1840) hG hS 2 (by decide) rfl dL_law_1840 kk) ?_
  replace h := zbind h
  obtain ⟨v2, hv2, h⟩ := h
  replace h := zchk_some h
  obtain ⟨hqv2, h⟩ := h
  refine And.imp_right (fun kk => z_cvI (A' := A0 + (C / 64 - v1.2.2.2.2 / 64)) (B' := B0 + 2 * (C - v1.2.2.2.2)) (nc := 0) (ns := 0) (rest := []) hG [.int (a 1), .int (a 2)] zc_X11 DL_42 (tX11_usual hl0 (a 1) (a 2) v1.2 hv2) zy_X11_usual ⟨w1929, w1930⟩ w1928 dL_law_1841 rfl (Nat.le_of_ble_eq_true rfl) (by omega) (by omega) rfl (Nat.le_of_ble_eq_true rfl) rfl kk) ?_
  refine zpc (of_decide_eq_true hqv2) ?_
  refine And.imp_right (fun kk => z_istore (pc := 1844) (ls' := [(6, .int v2.1), (5, .int v1.1), (0, .ref 950), (1, .ref 0), (2, .ref 42), (3, .ref 72), (4, .int i)]) hG [0, 1, 2, 3, 4, 5, 6] (by decide) rfl dL_law_1844 kk) ?_
  refine And.imp_right (fun kk => z_goto (pc := 1846) (tgt := 1967) hG dL_law_1846 rfl kk) ?_
  obtain rfl := Option.some.inj h
  refine And.imp_right (fun kk => z_sub (ls' := [(0, .ref 950), (1, .ref 0), (2, .ref 42), (3, .ref 72), (4, .int i)]) [2, 3, 4, 5, 6] rfl kk) ?_
  exact kf
noncomputable def nS_45 (a : Nat → Int32) (g : zS) : Option zS :=
  (nL_share (a 1) (a 2) g).bind fun v1 => zchk (decide (v1.2.2.2.2 = g.2.2.2)) ((nX11_share (a 1) (a 2) v1.2).bind fun v2 => zchk (decide (v2.2.2.2.2 = v1.2.2.2.2)) ((nX11_thrown v2.2).bind fun v3 => if v3 = v1.1 then (if v1.1 = 0 then (if (lg_cmp (v2.2.2.1 72 (0 : Int32).toNatClampNeg) v2.1.toInt64) = 0 then (some v2.2) else (none)) else (some v2.2)) else (none)))
noncomputable def nU_45 (a : Nat → Int32) (g : zS) : Option zS :=
  (nL_share (a 1) (a 2) g).bind fun v1 => zchk (decide (v1.2.2.2.2 = g.2.2.2)) ((nX11_share (a 1) (a 2) v1.2).bind fun v2 => zchk (decide (v2.2.2.2.2 = v1.2.2.2.2)) (some v2.2))
set_option maxHeartbeats 1000000 in
theorem tS_45 {x : zXx} {i : Int32} {a : Nat → Int32} (hl0 : (zl0 x).flags = flags0) (hG : zG x cL_law 7 RL ret) (hPx : zPx x.2.2.2.2.1) (hS : zScr x i a) {A0 B0 C : Nat} (g : zS) {r : zS} (h : nU_45 a g = some r) (kf : zgr r C ∧ zK x 66 1967 [(0, .ref 950), (1, .ref 0), (2, .ref 42), (3, .ref 72), (4, .int i)] [] zD r (A0 + (C / 64 - r.2.2.2 / 64)) (B0 + 2 * (C - r.2.2.2))) : zgr g C ∧ zK x 66 1849 [(0, .ref 950), (1, .ref 0), (2, .ref 42), (3, .ref 72), (4, .int i)] [] zD g (A0 + 2 + (C / 64 - g.2.2.2 / 64)) (B0 + 12 + 2 * (C - g.2.2.2)) := by
  unfold nU_45 at h
  refine And.imp_right (fun kk => z_aload_n (pc := 1849) hG 1 rfl rfl dL_law_1849 kk) ?_
  refine And.imp_right (fun kk => z_aload_n (pc := 1850) hG 0 rfl rfl dL_law_1850 kk) ?_
  refine And.imp_right (fun kk => z_iload (pc := 1851) hG 4 rfl dL_law_1851 kk) ?_
  refine And.imp_right (fun kk => z_iconst (pc := 1853) hG kc_1 dL_law_1853 kk) ?_
  refine And.imp_right (fun kk => z_iadd (pc := 1854) hG dL_law_1854 kk) ?_
  refine And.imp_right (fun kk => z_scr (pc := 1855) hG hS 1 (by decide) rfl dL_law_1855 kk) ?_
  refine And.imp_right (fun kk => z_aload_n (pc := 1856) hG 0 rfl rfl dL_law_1856 kk) ?_
  refine And.imp_right (fun kk => z_iload (pc := 1857) hG 4 rfl dL_law_1857 kk) ?_
  refine And.imp_right (fun kk => z_iconst (pc := 1859) hG kc_2 dL_law_1859 kk) ?_
  refine And.imp_right (fun kk => z_iadd (pc := 1860) hG dL_law_1860 kk) ?_
  refine And.imp_right (fun kk => z_scr (pc := 1861) hG hS 2 (by decide) rfl dL_law_1861 kk) ?_
  refine And.imp_right (fun kk => z_aload_n (pc := 1862) hG 3 rfl rfl dL_law_1862 kk) ?_
  replace h := zbind h
  obtain ⟨v1, hv1, h⟩ := h
  replace h := zchk_some h
  obtain ⟨hqv1, h⟩ := h
  refine And.imp_right (fun kk => z_csH (A' := A0 + (C / 64 - g.2.2.2 / 64)) (B' := B0 + 2 * (C - g.2.2.2)) (rest := []) hG hPx [.ref 0, .int (a 1), .int (a 2), .ref 72] (tL_share hl0 (a 1) (a 2) g hv1) zyH_share w1415 w1414 dL_law_1863 rfl (Nat.le_of_ble_eq_true rfl) (by omega) (by omega) rfl (Nat.le_of_ble_eq_true rfl) rfl kk) ?_
  refine zpc (of_decide_eq_true hqv1) ?_
  refine And.imp_right (fun kk => z_istore (pc := 1866) (ls' := [(5, .int v1.1), (0, .ref 950), (1, .ref 0), (2, .ref 42), (3, .ref 72), (4, .int i)]) hG [0, 1, 2, 3, 4, 5] (by decide) rfl dL_law_1866 kk) ?_
  refine And.imp_right (fun kk => z_aload_n (pc := 1868) hG 3 rfl rfl dL_law_1868 kk) ?_
  refine And.imp_right (fun kk => z_aload_n (pc := 1869) hG 1 rfl rfl dL_law_1869 kk) ?_
  refine And.imp_right (fun kk => z_iload (pc := 1870) hG 5 rfl dL_law_1870 kk) ?_
  refine And.imp_right (fun kk => z_iconst (pc := 1872) hG kc_1 dL_law_1872 kk) ?_
  refine And.imp_right (fun kk => z_iadd (pc := 1873) hG dL_law_1873 kk) ?_
  refine And.imp_right (fun kk => z_scr (pc := 1874) hG hS 1 (by decide) rfl dL_law_1874 kk) ?_
  refine And.imp_right (fun kk => z_aload_n (pc := 1875) hG 1 rfl rfl dL_law_1875 kk) ?_
  refine And.imp_right (fun kk => z_iload (pc := 1876) hG 5 rfl dL_law_1876 kk) ?_
  refine And.imp_right (fun kk => z_iconst (pc := 1878) hG kc_2 dL_law_1878 kk) ?_
  refine And.imp_right (fun kk => z_iadd (pc := 1879) hG dL_law_1879 kk) ?_
  refine And.imp_right (fun kk => z_scr (pc := 1880) hG hS 2 (by decide) rfl dL_law_1880 kk) ?_
  replace h := zbind h
  obtain ⟨v2, hv2, h⟩ := h
  replace h := zchk_some h
  obtain ⟨hqv2, h⟩ := h
  refine And.imp_right (fun kk => z_cvI (A' := A0 + (C / 64 - v1.2.2.2.2 / 64)) (B' := B0 + 2 * (C - v1.2.2.2.2)) (nc := 0) (ns := 0) (rest := []) hG [.int (a 1), .int (a 2)] zc_X11 DL_42 (tX11_share hl0 (a 1) (a 2) v1.2 hv2) zy_X11_share ⟨w2036, w2037⟩ w2035 dL_law_1881 rfl (Nat.le_of_ble_eq_true rfl) (by omega) (by omega) rfl (Nat.le_of_ble_eq_true rfl) rfl kk) ?_
  refine zpc (of_decide_eq_true hqv2) ?_
  refine And.imp_right (fun kk => z_istore (pc := 1884) (ls' := [(6, .int v2.1), (5, .int v1.1), (0, .ref 950), (1, .ref 0), (2, .ref 42), (3, .ref 72), (4, .int i)]) hG [0, 1, 2, 3, 4, 5, 6] (by decide) rfl dL_law_1884 kk) ?_
  refine And.imp_right (fun kk => z_goto (pc := 1886) (tgt := 1967) hG dL_law_1886 rfl kk) ?_
  obtain rfl := Option.some.inj h
  refine And.imp_right (fun kk => z_sub (ls' := [(0, .ref 950), (1, .ref 0), (2, .ref 42), (3, .ref 72), (4, .int i)]) [2, 3, 4, 5, 6] rfl kk) ?_
  exact kf
noncomputable def nS_46 (a : Nat → Int32) (g : zS) : Option zS :=
  (nL_write (a 1) g).bind fun v1 => zchk (decide (v1.2.2.2.2 = g.2.2.2)) ((nX11_write (a 1) v1.2).bind fun v2 => zchk (decide (v2.2.2.2.2 = v1.2.2.2.2)) ((nX11_thrown v2.2).bind fun v3 => if v3 = v1.1 then (if v1.1 = 0 then (if (lg_cmp (v2.2.2.1 72 (0 : Int32).toNatClampNeg) v2.1.toInt64) = 0 then (some v2.2) else (none)) else (some v2.2)) else (none)))
noncomputable def nU_46 (a : Nat → Int32) (g : zS) : Option zS :=
  (nL_write (a 1) g).bind fun v1 => zchk (decide (v1.2.2.2.2 = g.2.2.2)) ((nX11_write (a 1) v1.2).bind fun v2 => zchk (decide (v2.2.2.2.2 = v1.2.2.2.2)) (some v2.2))
set_option maxHeartbeats 1000000 in
theorem tS_46 {x : zXx} {i : Int32} {a : Nat → Int32} (hl0 : (zl0 x).flags = flags0) (hG : zG x cL_law 7 RL ret) (hPx : zPx x.2.2.2.2.1) (hS : zScr x i a) {A0 B0 C : Nat} (g : zS) {r : zS} (h : nU_46 a g = some r) (kf : zgr r C ∧ zK x 66 1967 [(0, .ref 950), (1, .ref 0), (2, .ref 42), (3, .ref 72), (4, .int i)] [] zD r (A0 + (C / 64 - r.2.2.2 / 64)) (B0 + 2 * (C - r.2.2.2))) : zgr g C ∧ zK x 66 1889 [(0, .ref 950), (1, .ref 0), (2, .ref 42), (3, .ref 72), (4, .int i)] [] zD g (A0 + 1 + (C / 64 - g.2.2.2 / 64)) (B0 + 6 + 2 * (C - g.2.2.2)) := by
  unfold nU_46 at h
  refine And.imp_right (fun kk => z_aload_n (pc := 1889) hG 1 rfl rfl dL_law_1889 kk) ?_
  refine And.imp_right (fun kk => z_aload_n (pc := 1890) hG 0 rfl rfl dL_law_1890 kk) ?_
  refine And.imp_right (fun kk => z_iload (pc := 1891) hG 4 rfl dL_law_1891 kk) ?_
  refine And.imp_right (fun kk => z_iconst (pc := 1893) hG kc_1 dL_law_1893 kk) ?_
  refine And.imp_right (fun kk => z_iadd (pc := 1894) hG dL_law_1894 kk) ?_
  refine And.imp_right (fun kk => z_scr (pc := 1895) hG hS 1 (by decide) rfl dL_law_1895 kk) ?_
  refine And.imp_right (fun kk => z_aload_n (pc := 1896) hG 3 rfl rfl dL_law_1896 kk) ?_
  replace h := zbind h
  obtain ⟨v1, hv1, h⟩ := h
  replace h := zchk_some h
  obtain ⟨hqv1, h⟩ := h
  refine And.imp_right (fun kk => z_csH (A' := A0 + (C / 64 - g.2.2.2 / 64)) (B' := B0 + 2 * (C - g.2.2.2)) (rest := []) hG hPx [.ref 0, .int (a 1), .ref 72] (tL_write hl0 (a 1) g hv1) zyH_write w1423 w1422 dL_law_1897 rfl (Nat.le_of_ble_eq_true rfl) (by omega) (by omega) rfl (Nat.le_of_ble_eq_true rfl) rfl kk) ?_
  refine zpc (of_decide_eq_true hqv1) ?_
  refine And.imp_right (fun kk => z_istore (pc := 1900) (ls' := [(5, .int v1.1), (0, .ref 950), (1, .ref 0), (2, .ref 42), (3, .ref 72), (4, .int i)]) hG [0, 1, 2, 3, 4, 5] (by decide) rfl dL_law_1900 kk) ?_
  refine And.imp_right (fun kk => z_aload_n (pc := 1902) hG 3 rfl rfl dL_law_1902 kk) ?_
  refine And.imp_right (fun kk => z_aload_n (pc := 1903) hG 1 rfl rfl dL_law_1903 kk) ?_
  refine And.imp_right (fun kk => z_iload (pc := 1904) hG 5 rfl dL_law_1904 kk) ?_
  refine And.imp_right (fun kk => z_iconst (pc := 1906) hG kc_1 dL_law_1906 kk) ?_
  refine And.imp_right (fun kk => z_iadd (pc := 1907) hG dL_law_1907 kk) ?_
  refine And.imp_right (fun kk => z_scr (pc := 1908) hG hS 1 (by decide) rfl dL_law_1908 kk) ?_
  replace h := zbind h
  obtain ⟨v2, hv2, h⟩ := h
  replace h := zchk_some h
  obtain ⟨hqv2, h⟩ := h
  refine And.imp_right (fun kk => z_cvI (A' := A0 + (C / 64 - v1.2.2.2.2 / 64)) (B' := B0 + 2 * (C - v1.2.2.2.2)) (nc := 0) (ns := 0) (rest := []) hG [.int (a 1)] zc_X11 DL_42 (tX11_write hl0 (a 1) v1.2 hv2) zy_X11_write ⟨w2040, w2041⟩ w2039 dL_law_1909 rfl (Nat.le_of_ble_eq_true rfl) (by omega) (by omega) rfl (Nat.le_of_ble_eq_true rfl) rfl kk) ?_
  refine zpc (of_decide_eq_true hqv2) ?_
  refine And.imp_right (fun kk => z_istore (pc := 1912) (ls' := [(6, .int v2.1), (5, .int v1.1), (0, .ref 950), (1, .ref 0), (2, .ref 42), (3, .ref 72), (4, .int i)]) hG [0, 1, 2, 3, 4, 5, 6] (by decide) rfl dL_law_1912 kk) ?_
  refine And.imp_right (fun kk => z_goto (pc := 1914) (tgt := 1967) hG dL_law_1914 rfl kk) ?_
  obtain rfl := Option.some.inj h
  refine And.imp_right (fun kk => z_sub (ls' := [(0, .ref 950), (1, .ref 0), (2, .ref 42), (3, .ref 72), (4, .int i)]) [2, 3, 4, 5, 6] rfl kk) ?_
  exact kf
noncomputable def nS_47 (a : Nat → Int32) (g : zS) : Option zS :=
  (nX10_octet (a 1) g).bind fun v1 => (nX11_octet (a 1) g).bind fun v2 => zchk (decide (v2.2.2.2.2 = g.2.2.2)) (if v1 = v2.1 then (some v2.2) else (none))
noncomputable def nU_47 (a : Nat → Int32) (g : zS) : Option zS :=
  (nX10_octet (a 1) g).bind fun v1 => (nX11_octet (a 1) g).bind fun v2 => zchk (decide (v2.2.2.2.2 = g.2.2.2)) (some v2.2)
set_option maxHeartbeats 1000000 in
theorem tS_47 {x : zXx} {i : Int32} {a : Nat → Int32} (hl0 : (zl0 x).flags = flags0) (hG : zG x cL_law 7 RL ret) (hPx : zPx x.2.2.2.2.1) (hS : zScr x i a) {A0 B0 C : Nat} (g : zS) {r : zS} (h : nU_47 a g = some r) (kf : zgr r C ∧ zK x 66 1967 [(0, .ref 950), (1, .ref 0), (2, .ref 42), (3, .ref 72), (4, .int i)] [] zD r (A0 + (C / 64 - r.2.2.2 / 64)) (B0 + 2 * (C - r.2.2.2))) : zgr g C ∧ zK x 66 1917 [(0, .ref 950), (1, .ref 0), (2, .ref 42), (3, .ref 72), (4, .int i)] [] zD g (A0 + 0 + (C / 64 - g.2.2.2 / 64)) (B0 + 0 + 2 * (C - g.2.2.2)) := by
  unfold nU_47 at h
  refine And.imp_right (fun kk => z_aload_n (pc := 1917) hG 1 rfl rfl dL_law_1917 kk) ?_
  refine And.imp_right (fun kk => z_aload_n (pc := 1918) hG 0 rfl rfl dL_law_1918 kk) ?_
  refine And.imp_right (fun kk => z_iload (pc := 1919) hG 4 rfl dL_law_1919 kk) ?_
  refine And.imp_right (fun kk => z_iconst (pc := 1921) hG kc_1 dL_law_1921 kk) ?_
  refine And.imp_right (fun kk => z_iadd (pc := 1922) hG dL_law_1922 kk) ?_
  refine And.imp_right (fun kk => z_scr (pc := 1923) hG hS 1 (by decide) rfl dL_law_1923 kk) ?_
  replace h := zbind h
  obtain ⟨v1, hv1, h⟩ := h
  refine And.imp_right (fun kk => z_cvI (A' := A0 + (C / 64 - g.2.2.2 / 64)) (B' := B0 + 2 * (C - g.2.2.2)) (nc := 0) (ns := 0) (rest := []) hG [.int (a 1)] zc_X10 DL_0 (tX10_octet hl0 (a 1) g hv1) zy_X10_octet ⟨w527, w528⟩ w526 dL_law_1924 rfl (Nat.le_of_ble_eq_true rfl) (by omega) (by omega) rfl (Nat.le_of_ble_eq_true rfl) rfl kk) ?_
  refine And.imp_right (fun kk => z_pop (pc := 1927) hG rfl dL_law_1927 kk) ?_
  refine And.imp_right (fun kk => z_aload_n (pc := 1928) hG 2 rfl rfl dL_law_1928 kk) ?_
  refine And.imp_right (fun kk => z_aload_n (pc := 1929) hG 0 rfl rfl dL_law_1929 kk) ?_
  refine And.imp_right (fun kk => z_iload (pc := 1930) hG 4 rfl dL_law_1930 kk) ?_
  refine And.imp_right (fun kk => z_iconst (pc := 1932) hG kc_1 dL_law_1932 kk) ?_
  refine And.imp_right (fun kk => z_iadd (pc := 1933) hG dL_law_1933 kk) ?_
  refine And.imp_right (fun kk => z_scr (pc := 1934) hG hS 1 (by decide) rfl dL_law_1934 kk) ?_
  replace h := zbind h
  obtain ⟨v2, hv2, h⟩ := h
  replace h := zchk_some h
  obtain ⟨hqv2, h⟩ := h
  refine And.imp_right (fun kk => z_cvI (A' := A0 + (C / 64 - g.2.2.2 / 64)) (B' := B0 + 2 * (C - g.2.2.2)) (nc := 0) (ns := 0) (rest := []) hG [.int (a 1)] zc_X11 DL_42 (tX11_octet hl0 (a 1) g hv2) zy_X11_octet ⟨w2044, w2045⟩ w2043 dL_law_1935 rfl (Nat.le_of_ble_eq_true rfl) (by omega) (by omega) rfl (Nat.le_of_ble_eq_true rfl) rfl kk) ?_
  refine zpc (of_decide_eq_true hqv2) ?_
  refine And.imp_right (fun kk => z_pop (pc := 1938) hG rfl dL_law_1938 kk) ?_
  refine And.imp_right (fun kk => z_goto (pc := 1939) (tgt := 1967) hG dL_law_1939 rfl kk) ?_
  obtain rfl := Option.some.inj h
  exact kf
noncomputable def nS_48 (a : Nat → Int32) (g : zS) : Option zS :=
  (nX10_count (a 1) g).bind fun v1 => (nX11_count (a 1) g).bind fun v2 => zchk (decide (v2.2.2.2.2 = g.2.2.2)) (if v1 = v2.1 then (some v2.2) else (none))
noncomputable def nU_48 (a : Nat → Int32) (g : zS) : Option zS :=
  (nX10_count (a 1) g).bind fun v1 => (nX11_count (a 1) g).bind fun v2 => zchk (decide (v2.2.2.2.2 = g.2.2.2)) (some v2.2)
set_option maxHeartbeats 1000000 in
theorem tS_48 {x : zXx} {i : Int32} {a : Nat → Int32} (hl0 : (zl0 x).flags = flags0) (hG : zG x cL_law 7 RL ret) (hPx : zPx x.2.2.2.2.1) (hS : zScr x i a) {A0 B0 C : Nat} (g : zS) {r : zS} (h : nU_48 a g = some r) (kf : zgr r C ∧ zK x 66 1967 [(0, .ref 950), (1, .ref 0), (2, .ref 42), (3, .ref 72), (4, .int i)] [] zD r (A0 + (C / 64 - r.2.2.2 / 64)) (B0 + 2 * (C - r.2.2.2))) : zgr g C ∧ zK x 66 1942 [(0, .ref 950), (1, .ref 0), (2, .ref 42), (3, .ref 72), (4, .int i)] [] zD g (A0 + 0 + (C / 64 - g.2.2.2 / 64)) (B0 + 0 + 2 * (C - g.2.2.2)) := by
  unfold nU_48 at h
  refine And.imp_right (fun kk => z_aload_n (pc := 1942) hG 1 rfl rfl dL_law_1942 kk) ?_
  refine And.imp_right (fun kk => z_aload_n (pc := 1943) hG 0 rfl rfl dL_law_1943 kk) ?_
  refine And.imp_right (fun kk => z_iload (pc := 1944) hG 4 rfl dL_law_1944 kk) ?_
  refine And.imp_right (fun kk => z_iconst (pc := 1946) hG kc_1 dL_law_1946 kk) ?_
  refine And.imp_right (fun kk => z_iadd (pc := 1947) hG dL_law_1947 kk) ?_
  refine And.imp_right (fun kk => z_scr (pc := 1948) hG hS 1 (by decide) rfl dL_law_1948 kk) ?_
  replace h := zbind h
  obtain ⟨v1, hv1, h⟩ := h
  refine And.imp_right (fun kk => z_cvI (A' := A0 + (C / 64 - g.2.2.2 / 64)) (B' := B0 + 2 * (C - g.2.2.2)) (nc := 0) (ns := 0) (rest := []) hG [.int (a 1)] zc_X10 DL_0 (tX10_count hl0 (a 1) g hv1) zy_X10_count ⟨w531, w532⟩ w530 dL_law_1949 rfl (Nat.le_of_ble_eq_true rfl) (by omega) (by omega) rfl (Nat.le_of_ble_eq_true rfl) rfl kk) ?_
  refine And.imp_right (fun kk => z_pop (pc := 1952) hG rfl dL_law_1952 kk) ?_
  refine And.imp_right (fun kk => z_aload_n (pc := 1953) hG 2 rfl rfl dL_law_1953 kk) ?_
  refine And.imp_right (fun kk => z_aload_n (pc := 1954) hG 0 rfl rfl dL_law_1954 kk) ?_
  refine And.imp_right (fun kk => z_iload (pc := 1955) hG 4 rfl dL_law_1955 kk) ?_
  refine And.imp_right (fun kk => z_iconst (pc := 1957) hG kc_1 dL_law_1957 kk) ?_
  refine And.imp_right (fun kk => z_iadd (pc := 1958) hG dL_law_1958 kk) ?_
  refine And.imp_right (fun kk => z_scr (pc := 1959) hG hS 1 (by decide) rfl dL_law_1959 kk) ?_
  replace h := zbind h
  obtain ⟨v2, hv2, h⟩ := h
  replace h := zchk_some h
  obtain ⟨hqv2, h⟩ := h
  refine And.imp_right (fun kk => z_cvI (A' := A0 + (C / 64 - g.2.2.2 / 64)) (B' := B0 + 2 * (C - g.2.2.2)) (nc := 0) (ns := 0) (rest := []) hG [.int (a 1)] zc_X11 DL_42 (tX11_count hl0 (a 1) g hv2) zy_X11_count ⟨w2048, w2049⟩ w2047 dL_law_1960 rfl (Nat.le_of_ble_eq_true rfl) (by omega) (by omega) rfl (Nat.le_of_ble_eq_true rfl) rfl kk) ?_
  refine zpc (of_decide_eq_true hqv2) ?_
  refine And.imp_right (fun kk => z_pop (pc := 1963) hG rfl dL_law_1963 kk) ?_
  refine And.imp_right (fun kk => z_goto (pc := 1964) (tgt := 1967) hG dL_law_1964 rfl kk) ?_
  obtain rfl := Option.some.inj h
  exact kf
