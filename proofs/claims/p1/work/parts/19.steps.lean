
/-! ===== the steps of the law's loop ===== -/
/-- six ints of the script from i on -/
def zScr (x : zXx) (i : Int32) (a : Nat → Int32) : Prop := match x with
  | (p, l, e, R, s, m, args, below, meth, c, D, ca, b0, ad0, n0, tg) => ∃ (L : Nat) (xs : Nat → Int32), va_X (ad0 950) L xs s s.heap ∧ ad0 950 < s.heap.size ∧ ad0 950 < b0 ∧ ∀ j, j < 6 → vp_in (i + nI j) L ∧ xs (i + nI j).toNatClampNeg = a j
section ZSt
variable {x : zXx} {cc : ByteArray} {nL : Nat} {own : String} {ret : Option FieldType} {F pc : Nat} {ls : List (Nat × Value)} {st : List Value} {dl : List zDs} {σ : zS} {A B : Nat}
theorem z_scr {i v : Int32} {a : Nat → Int32} (hG : zG x cc nL own ret) (hS : zScr x i a) (j : Nat) (hj : j < 6) (hv : v = i + nI j) (hd : decode cc pc = .ok (.iaload, 1))
    (kk : zK x F (pc + 1) ls (.int (a j) :: st) dl σ A B) : zK x F pc ls (.int v :: .ref 950 :: st) dl σ A B := by
  obtain ⟨p, l, e, R, s, m, args, below, meth, c, D, ca, b0, ad0, n0, tg⟩ := x
  obtain ⟨hx, hb, hml, hown, hts, hret, hlk, htab, hKs, hOs, hfl⟩ := hG
  obtain ⟨L, xs, g1, g2, g3, g4⟩ := hS
  subst hv
  intro ad H locs la cells slots h1 h2 h3 h4 h5 h6 h7 h8 h9 h10
  have e9 : ad 950 = ad0 950 := h1.hi 950 (by decide)
  have k2 := kk ad H locs la cells slots h1 h2 h3 h4 h5 h6 h7 h8 h9 h10
  show W p l e R s m args below meth c H locs cells slots _ (F0 m pc la (.int (i + nI j) :: .ref (ad 950) :: st.map (zr ad)))
  rw [e9]
  refine va_sld hx hb g1 g2 (A := zA b0) (fun q => Nat.not_le.mpr g3 q) h5 (g4 j hj).1 hd ?_
  rw [(g4 j hj).2]
  exact k2
end ZSt
theorem z_i0 (i : Int32) : i = i + nI 0 := (Int32.add_zero i).symm
noncomputable def nS_0 (a : Nat → Int32) (g : zS) : Option zS :=
  (nX10_feed (a 1) (a 2) (a 3) (a 4) (a 5) g).bind fun v1 => zchk (decide (v1.2.2.2.2 = g.2.2.2)) ((nX11_feed (a 1) (a 2) (a 3) (a 4) (a 5) v1.2).bind fun v2 => zchk (decide (v2.2.2.2.2 = v1.2.2.2.2)) (if v1.1 = v2.1 then (some v2.2) else (none)))
set_option maxHeartbeats 1000000 in
theorem tS_0 {x : zXx} {i : Int32} {a : Nat → Int32} (hl0 : (zl0 x).flags = flags0) (hG : zG x cL_law 7 RL ret) (hPx : zPx x.2.2.2.2.1) (hS : zScr x i a) {A0 B0 C : Nat} (g : zS) {r : zS} (h : nS_0 a g = some r) (kf : zgr r C ∧ zK x 66 3017 [(0, .ref 950), (1, .ref 0), (2, .ref 42), (3, .ref 72), (4, .int i)] [] zD r (A0 + (C / 64 - r.2.2.2 / 64)) (B0 + 2 * (C - r.2.2.2))) : zgr g C ∧ zK x 66 252 [(0, .ref 950), (1, .ref 0), (2, .ref 42), (3, .ref 72), (4, .int i)] [] zD g (A0 + 0 + (C / 64 - g.2.2.2 / 64)) (B0 + 0 + 2 * (C - g.2.2.2)) := by
  unfold nS_0 at h
  refine And.imp_right (fun kk => z_aload_n (pc := 252) hG 1 rfl rfl dL_law_252 kk) ?_
  refine And.imp_right (fun kk => z_aload_n (pc := 253) hG 0 rfl rfl dL_law_253 kk) ?_
  refine And.imp_right (fun kk => z_iload (pc := 254) hG 4 rfl dL_law_254 kk) ?_
  refine And.imp_right (fun kk => z_iconst (pc := 256) hG kc_1 dL_law_256 kk) ?_
  refine And.imp_right (fun kk => z_iadd (pc := 257) hG dL_law_257 kk) ?_
  refine And.imp_right (fun kk => z_scr (pc := 258) hG hS 1 (by decide) rfl dL_law_258 kk) ?_
  refine And.imp_right (fun kk => z_aload_n (pc := 259) hG 0 rfl rfl dL_law_259 kk) ?_
  refine And.imp_right (fun kk => z_iload (pc := 260) hG 4 rfl dL_law_260 kk) ?_
  refine And.imp_right (fun kk => z_iconst (pc := 262) hG kc_2 dL_law_262 kk) ?_
  refine And.imp_right (fun kk => z_iadd (pc := 263) hG dL_law_263 kk) ?_
  refine And.imp_right (fun kk => z_scr (pc := 264) hG hS 2 (by decide) rfl dL_law_264 kk) ?_
  refine And.imp_right (fun kk => z_aload_n (pc := 265) hG 0 rfl rfl dL_law_265 kk) ?_
  refine And.imp_right (fun kk => z_iload (pc := 266) hG 4 rfl dL_law_266 kk) ?_
  refine And.imp_right (fun kk => z_iconst (pc := 268) hG kc_3 dL_law_268 kk) ?_
  refine And.imp_right (fun kk => z_iadd (pc := 269) hG dL_law_269 kk) ?_
  refine And.imp_right (fun kk => z_scr (pc := 270) hG hS 3 (by decide) rfl dL_law_270 kk) ?_
  refine And.imp_right (fun kk => z_aload_n (pc := 271) hG 0 rfl rfl dL_law_271 kk) ?_
  refine And.imp_right (fun kk => z_iload (pc := 272) hG 4 rfl dL_law_272 kk) ?_
  refine And.imp_right (fun kk => z_iconst (pc := 274) hG kc_4 dL_law_274 kk) ?_
  refine And.imp_right (fun kk => z_iadd (pc := 275) hG dL_law_275 kk) ?_
  refine And.imp_right (fun kk => z_scr (pc := 276) hG hS 4 (by decide) rfl dL_law_276 kk) ?_
  refine And.imp_right (fun kk => z_aload_n (pc := 277) hG 0 rfl rfl dL_law_277 kk) ?_
  refine And.imp_right (fun kk => z_iload (pc := 278) hG 4 rfl dL_law_278 kk) ?_
  refine And.imp_right (fun kk => z_iconst (pc := 280) hG kc_5 dL_law_280 kk) ?_
  refine And.imp_right (fun kk => z_iadd (pc := 281) hG dL_law_281 kk) ?_
  refine And.imp_right (fun kk => z_scr (pc := 282) hG hS 5 (by decide) rfl dL_law_282 kk) ?_
  replace h := zbind h
  obtain ⟨v1, hv1, h⟩ := h
  replace h := zchk_some h
  obtain ⟨hqv1, h⟩ := h
  refine And.imp_right (fun kk => z_cvI (A' := A0 + (C / 64 - g.2.2.2 / 64)) (B' := B0 + 2 * (C - g.2.2.2)) (nc := 0) (ns := 0) (rest := []) hG [.int (a 1), .int (a 2), .int (a 3), .int (a 4), .int (a 5)] zc_X10 DL_0 (tX10_feed hl0 (a 1) (a 2) (a 3) (a 4) (a 5) g hv1) zy_X10_feed ⟨w320, w321⟩ w319 dL_law_283 rfl (Nat.le_of_ble_eq_true rfl) (by omega) (by omega) rfl (Nat.le_of_ble_eq_true rfl) rfl kk) ?_
  refine zpc (of_decide_eq_true hqv1) ?_
  refine And.imp_right (fun kk => z_aload_n (pc := 286) hG 2 rfl rfl dL_law_286 kk) ?_
  refine And.imp_right (fun kk => z_aload_n (pc := 287) hG 0 rfl rfl dL_law_287 kk) ?_
  refine And.imp_right (fun kk => z_iload (pc := 288) hG 4 rfl dL_law_288 kk) ?_
  refine And.imp_right (fun kk => z_iconst (pc := 290) hG kc_1 dL_law_290 kk) ?_
  refine And.imp_right (fun kk => z_iadd (pc := 291) hG dL_law_291 kk) ?_
  refine And.imp_right (fun kk => z_scr (pc := 292) hG hS 1 (by decide) rfl dL_law_292 kk) ?_
  refine And.imp_right (fun kk => z_aload_n (pc := 293) hG 0 rfl rfl dL_law_293 kk) ?_
  refine And.imp_right (fun kk => z_iload (pc := 294) hG 4 rfl dL_law_294 kk) ?_
  refine And.imp_right (fun kk => z_iconst (pc := 296) hG kc_2 dL_law_296 kk) ?_
  refine And.imp_right (fun kk => z_iadd (pc := 297) hG dL_law_297 kk) ?_
  refine And.imp_right (fun kk => z_scr (pc := 298) hG hS 2 (by decide) rfl dL_law_298 kk) ?_
  refine And.imp_right (fun kk => z_aload_n (pc := 299) hG 0 rfl rfl dL_law_299 kk) ?_
  refine And.imp_right (fun kk => z_iload (pc := 300) hG 4 rfl dL_law_300 kk) ?_
  refine And.imp_right (fun kk => z_iconst (pc := 302) hG kc_3 dL_law_302 kk) ?_
  refine And.imp_right (fun kk => z_iadd (pc := 303) hG dL_law_303 kk) ?_
  refine And.imp_right (fun kk => z_scr (pc := 304) hG hS 3 (by decide) rfl dL_law_304 kk) ?_
  refine And.imp_right (fun kk => z_aload_n (pc := 305) hG 0 rfl rfl dL_law_305 kk) ?_
  refine And.imp_right (fun kk => z_iload (pc := 306) hG 4 rfl dL_law_306 kk) ?_
  refine And.imp_right (fun kk => z_iconst (pc := 308) hG kc_4 dL_law_308 kk) ?_
  refine And.imp_right (fun kk => z_iadd (pc := 309) hG dL_law_309 kk) ?_
  refine And.imp_right (fun kk => z_scr (pc := 310) hG hS 4 (by decide) rfl dL_law_310 kk) ?_
  refine And.imp_right (fun kk => z_aload_n (pc := 311) hG 0 rfl rfl dL_law_311 kk) ?_
  refine And.imp_right (fun kk => z_iload (pc := 312) hG 4 rfl dL_law_312 kk) ?_
  refine And.imp_right (fun kk => z_iconst (pc := 314) hG kc_5 dL_law_314 kk) ?_
  refine And.imp_right (fun kk => z_iadd (pc := 315) hG dL_law_315 kk) ?_
  refine And.imp_right (fun kk => z_scr (pc := 316) hG hS 5 (by decide) rfl dL_law_316 kk) ?_
  replace h := zbind h
  obtain ⟨v2, hv2, h⟩ := h
  replace h := zchk_some h
  obtain ⟨hqv2, h⟩ := h
  refine And.imp_right (fun kk => z_cvI (A' := A0 + (C / 64 - v1.2.2.2.2 / 64)) (B' := B0 + 2 * (C - v1.2.2.2.2)) (nc := 0) (ns := 0) (rest := [.int v1.1]) hG [.int (a 1), .int (a 2), .int (a 3), .int (a 4), .int (a 5)] zc_X11 DL_42 (tX11_feed hl0 (a 1) (a 2) (a 3) (a 4) (a 5) v1.2 hv2) zy_X11_feed ⟨w1599, w1600⟩ w1598 dL_law_317 rfl (Nat.le_of_ble_eq_true rfl) (by omega) (by omega) rfl (Nat.le_of_ble_eq_true rfl) rfl kk) ?_
  refine zpc (of_decide_eq_true hqv2) ?_
  by_cases hc : v1.1 = v2.1
  rotate_left
  · replace h := zif_f hc h
    cases h
  replace h := zif_t hc h
  refine And.imp_right (fun kk => z_icmp_eq (pc := 320) (tgt := 3017) hG dL_law_320 rfl (fun _ => kk) (fun q => (q hc).elim)) ?_
  obtain rfl := Option.some.inj h
  exact kf
noncomputable def nS_1 (a : Nat → Int32) (g : zS) : Option zS :=
  (nX10_end (a 1) g).bind fun v1 => zchk (decide (v1.2.2.2.2 = g.2.2.2)) ((nX11_end (a 1) v1.2).bind fun v2 => zchk (decide (v2.2.2.2.2 = v1.2.2.2.2)) (if v1.1 = v2.1 then (some v2.2) else (none)))
set_option maxHeartbeats 1000000 in
theorem tS_1 {x : zXx} {i : Int32} {a : Nat → Int32} (hl0 : (zl0 x).flags = flags0) (hG : zG x cL_law 7 RL ret) (hPx : zPx x.2.2.2.2.1) (hS : zScr x i a) {A0 B0 C : Nat} (g : zS) {r : zS} (h : nS_1 a g = some r) (kf : zgr r C ∧ zK x 66 3017 [(0, .ref 950), (1, .ref 0), (2, .ref 42), (3, .ref 72), (4, .int i)] [] zD r (A0 + (C / 64 - r.2.2.2 / 64)) (B0 + 2 * (C - r.2.2.2))) : zgr g C ∧ zK x 66 325 [(0, .ref 950), (1, .ref 0), (2, .ref 42), (3, .ref 72), (4, .int i)] [] zD g (A0 + 0 + (C / 64 - g.2.2.2 / 64)) (B0 + 0 + 2 * (C - g.2.2.2)) := by
  unfold nS_1 at h
  refine And.imp_right (fun kk => z_aload_n (pc := 325) hG 1 rfl rfl dL_law_325 kk) ?_
  refine And.imp_right (fun kk => z_aload_n (pc := 326) hG 0 rfl rfl dL_law_326 kk) ?_
  refine And.imp_right (fun kk => z_iload (pc := 327) hG 4 rfl dL_law_327 kk) ?_
  refine And.imp_right (fun kk => z_iconst (pc := 329) hG kc_1 dL_law_329 kk) ?_
  refine And.imp_right (fun kk => z_iadd (pc := 330) hG dL_law_330 kk) ?_
  refine And.imp_right (fun kk => z_scr (pc := 331) hG hS 1 (by decide) rfl dL_law_331 kk) ?_
  replace h := zbind h
  obtain ⟨v1, hv1, h⟩ := h
  replace h := zchk_some h
  obtain ⟨hqv1, h⟩ := h
  refine And.imp_right (fun kk => z_cvI (A' := A0 + (C / 64 - g.2.2.2 / 64)) (B' := B0 + 2 * (C - g.2.2.2)) (nc := 0) (ns := 0) (rest := []) hG [.int (a 1)] zc_X10 DL_0 (tX10_end hl0 (a 1) g hv1) zy_X10_end ⟨w332, w333⟩ w331 dL_law_332 rfl (Nat.le_of_ble_eq_true rfl) (by omega) (by omega) rfl (Nat.le_of_ble_eq_true rfl) rfl kk) ?_
  refine zpc (of_decide_eq_true hqv1) ?_
  refine And.imp_right (fun kk => z_aload_n (pc := 335) hG 2 rfl rfl dL_law_335 kk) ?_
  refine And.imp_right (fun kk => z_aload_n (pc := 336) hG 0 rfl rfl dL_law_336 kk) ?_
  refine And.imp_right (fun kk => z_iload (pc := 337) hG 4 rfl dL_law_337 kk) ?_
  refine And.imp_right (fun kk => z_iconst (pc := 339) hG kc_1 dL_law_339 kk) ?_
  refine And.imp_right (fun kk => z_iadd (pc := 340) hG dL_law_340 kk) ?_
  refine And.imp_right (fun kk => z_scr (pc := 341) hG hS 1 (by decide) rfl dL_law_341 kk) ?_
  replace h := zbind h
  obtain ⟨v2, hv2, h⟩ := h
  replace h := zchk_some h
  obtain ⟨hqv2, h⟩ := h
  refine And.imp_right (fun kk => z_cvI (A' := A0 + (C / 64 - v1.2.2.2.2 / 64)) (B' := B0 + 2 * (C - v1.2.2.2.2)) (nc := 0) (ns := 0) (rest := [.int v1.1]) hG [.int (a 1)] zc_X11 DL_42 (tX11_end hl0 (a 1) v1.2 hv2) zy_X11_end ⟨w1603, w1604⟩ w1602 dL_law_342 rfl (Nat.le_of_ble_eq_true rfl) (by omega) (by omega) rfl (Nat.le_of_ble_eq_true rfl) rfl kk) ?_
  refine zpc (of_decide_eq_true hqv2) ?_
  by_cases hc : v1.1 = v2.1
  rotate_left
  · replace h := zif_f hc h
    cases h
  replace h := zif_t hc h
  refine And.imp_right (fun kk => z_icmp_eq (pc := 345) (tgt := 3017) hG dL_law_345 rfl (fun _ => kk) (fun q => (q hc).elim)) ?_
  obtain rfl := Option.some.inj h
  exact kf
noncomputable def nS_2 (a : Nat → Int32) (g : zS) : Option zS :=
  (nL_read  g).bind fun v1 => zchk (decide (v1.2.2.2.2 = g.2.2.2)) ((nX11_read v1.2).bind fun v2 => zchk (decide (v2.2.2.2.2 = v1.2.2.2.2)) ((nX11_thrown v2.2).bind fun v3 => if v3 = v1.1 then (if v1.1 = 0 then (if (lg_cmp (v2.2.2.1 72 (0 : Int32).toNatClampNeg) v2.1.toInt64) = 0 then (some v2.2) else (none)) else (some v2.2)) else (none)))
set_option maxHeartbeats 1000000 in
theorem tS_2 {x : zXx} {i : Int32} {a : Nat → Int32} (hl0 : (zl0 x).flags = flags0) (hG : zG x cL_law 7 RL ret) (hPx : zPx x.2.2.2.2.1) (hS : zScr x i a) {A0 B0 C : Nat} (g : zS) {r : zS} (h : nS_2 a g = some r) (kf : zgr r C ∧ zK x 66 3017 [(0, .ref 950), (1, .ref 0), (2, .ref 42), (3, .ref 72), (4, .int i)] [] zD r (A0 + (C / 64 - r.2.2.2 / 64)) (B0 + 2 * (C - r.2.2.2))) : zgr g C ∧ zK x 66 350 [(0, .ref 950), (1, .ref 0), (2, .ref 42), (3, .ref 72), (4, .int i)] [] zD g (A0 + 1 + (C / 64 - g.2.2.2 / 64)) (B0 + 6 + 2 * (C - g.2.2.2)) := by
  unfold nS_2 at h
  refine And.imp_right (fun kk => z_aload_n (pc := 350) hG 1 rfl rfl dL_law_350 kk) ?_
  refine And.imp_right (fun kk => z_aload_n (pc := 351) hG 3 rfl rfl dL_law_351 kk) ?_
  replace h := zbind h
  obtain ⟨v1, hv1, h⟩ := h
  replace h := zchk_some h
  obtain ⟨hqv1, h⟩ := h
  refine And.imp_right (fun kk => z_csH (A' := A0 + (C / 64 - g.2.2.2 / 64)) (B' := B0 + 2 * (C - g.2.2.2)) (rest := []) hG hPx [.ref 0, .ref 72] (tL_read hl0  g hv1) zyH_read w553 w552 dL_law_352 rfl (Nat.le_of_ble_eq_true rfl) (by omega) (by omega) rfl (Nat.le_of_ble_eq_true rfl) rfl kk) ?_
  refine zpc (of_decide_eq_true hqv1) ?_
  refine And.imp_right (fun kk => z_istore (pc := 355) (ls' := [(5, .int v1.1), (0, .ref 950), (1, .ref 0), (2, .ref 42), (3, .ref 72), (4, .int i)]) hG [0, 1, 2, 3, 4, 5] (by decide) rfl dL_law_355 kk) ?_
  refine And.imp_right (fun kk => z_aload_n (pc := 357) hG 3 rfl rfl dL_law_357 kk) ?_
  replace h := zbind h
  obtain ⟨v2, hv2, h⟩ := h
  replace h := zchk_some h
  obtain ⟨hqv2, h⟩ := h
  refine And.imp_right (fun kk => z_cvI (A' := A0 + (C / 64 - v1.2.2.2.2 / 64)) (B' := B0 + 2 * (C - v1.2.2.2.2)) (nc := 0) (ns := 0) (rest := []) hG [] zc_X11 DL_42 (tX11_read hl0  v1.2 hv2) zy_X11_read ⟨w1607, w1608⟩ w1606 dL_law_358 rfl (Nat.le_of_ble_eq_true rfl) (by omega) (by omega) rfl (Nat.le_of_ble_eq_true rfl) rfl kk) ?_
  refine zpc (of_decide_eq_true hqv2) ?_
  refine And.imp_right (fun kk => z_istore (pc := 361) (ls' := [(6, .int v2.1), (5, .int v1.1), (0, .ref 950), (1, .ref 0), (2, .ref 42), (3, .ref 72), (4, .int i)]) hG [0, 1, 2, 3, 4, 5, 6] (by decide) rfl dL_law_361 kk) ?_
  refine And.imp_right (fun kk => z_aload_n (pc := 363) hG 4 rfl rfl dL_law_363 kk) ?_
  replace h := zbind h
  obtain ⟨v3, hv3, h⟩ := h
  refine And.imp_right (fun kk => z_cvI (A' := A0 + (C / 64 - v2.2.2.2.2 / 64)) (B' := B0 + 2 * (C - v2.2.2.2.2)) (nc := 0) (ns := 0) (rest := []) hG [] zc_X11 DL_42 (tX11_thrown hl0  v2.2 hv3) zy_X11_thrown ⟨w1595, w1596⟩ w1594 dL_law_364 rfl (Nat.le_of_ble_eq_true rfl) (by omega) (by omega) rfl (Nat.le_of_ble_eq_true rfl) rfl kk) ?_
  refine And.imp_right (fun kk => z_iload (pc := 367) hG 1 rfl dL_law_367 kk) ?_
  by_cases hc : v3 = v1.1
  rotate_left
  · replace h := zif_f hc h
    cases h
  replace h := zif_t hc h
  refine And.imp_right (fun kk => z_icmp_eq (pc := 369) (tgt := 374) hG dL_law_369 rfl (fun _ => kk) (fun q => (q hc).elim)) ?_
  refine And.imp_right (fun kk => z_iload (pc := 374) hG 1 rfl dL_law_374 kk) ?_
  refine zbr (c := v1.1 = 0) (fun hc => ?_) (fun hc => ?_) (fun k1 k2 => z_if_ne (pc := 376) (tgt := 391) hG dL_law_376 rfl k2 k1)
  · replace h := zif_t hc h
    refine And.imp_right (fun kk => z_aload_n (pc := 379) hG 5 rfl rfl dL_law_379 kk) ?_
    refine And.imp_right (fun kk => z_iconst (pc := 380) hG kc_0 dL_law_380 kk) ?_
    refine And.imp_right (fun kk => z_lald (pc := 381) hG DL_72 (zin_in (by decide)) dL_law_381 kk) ?_
    refine And.imp_right (fun kk => z_iload (pc := 382) hG 0 rfl dL_law_382 kk) ?_
    refine And.imp_right (fun kk => z_i2l (pc := 384) hG dL_law_384 kk) ?_
    refine And.imp_right (fun kk => z_lcmp (pc := 385) hG dL_law_385 kk) ?_
    by_cases hc : (lg_cmp (v2.2.2.1 72 (0 : Int32).toNatClampNeg) v2.1.toInt64) = 0
    rotate_left
    · replace h := zif_f hc h
      cases h
    replace h := zif_t hc h
    refine And.imp_right (fun kk => z_if_eq (pc := 386) (tgt := 391) hG dL_law_386 rfl (fun _ => kk) (fun q => (q hc).elim)) ?_
    refine And.imp_right (fun kk => z_goto (pc := 391) (tgt := 3017) hG dL_law_391 rfl kk) ?_
    obtain rfl := Option.some.inj h
    refine And.imp_right (fun kk => z_sub (ls' := [(0, .ref 950), (1, .ref 0), (2, .ref 42), (3, .ref 72), (4, .int i)]) [2, 3, 4, 5, 6] rfl kk) ?_
    exact kf
  · replace h := zif_f hc h
    refine And.imp_right (fun kk => z_goto (pc := 391) (tgt := 3017) hG dL_law_391 rfl kk) ?_
    obtain rfl := Option.some.inj h
    refine And.imp_right (fun kk => z_sub (ls' := [(0, .ref 950), (1, .ref 0), (2, .ref 42), (3, .ref 72), (4, .int i)]) [2, 3, 4, 5, 6] rfl kk) ?_
    exact kf
noncomputable def nS_3 (a : Nat → Int32) (g : zS) : Option zS :=
  (nX10_fault g).bind fun v1 => (nX11_fault g).bind fun v2 => zchk (decide (v2.2.2.2.2 = g.2.2.2)) (if v1 = v2.1 then (some v2.2) else (none))
set_option maxHeartbeats 1000000 in
theorem tS_3 {x : zXx} {i : Int32} {a : Nat → Int32} (hl0 : (zl0 x).flags = flags0) (hG : zG x cL_law 7 RL ret) (hPx : zPx x.2.2.2.2.1) (hS : zScr x i a) {A0 B0 C : Nat} (g : zS) {r : zS} (h : nS_3 a g = some r) (kf : zgr r C ∧ zK x 66 3017 [(0, .ref 950), (1, .ref 0), (2, .ref 42), (3, .ref 72), (4, .int i)] [] zD r (A0 + (C / 64 - r.2.2.2 / 64)) (B0 + 2 * (C - r.2.2.2))) : zgr g C ∧ zK x 66 394 [(0, .ref 950), (1, .ref 0), (2, .ref 42), (3, .ref 72), (4, .int i)] [] zD g (A0 + 0 + (C / 64 - g.2.2.2 / 64)) (B0 + 0 + 2 * (C - g.2.2.2)) := by
  unfold nS_3 at h
  refine And.imp_right (fun kk => z_aload_n (pc := 394) hG 1 rfl rfl dL_law_394 kk) ?_
  replace h := zbind h
  obtain ⟨v1, hv1, h⟩ := h
  refine And.imp_right (fun kk => z_cvI (A' := A0 + (C / 64 - g.2.2.2 / 64)) (B' := B0 + 2 * (C - g.2.2.2)) (nc := 0) (ns := 0) (rest := []) hG [] zc_X10 DL_0 (tX10_fault hl0  g hv1) zy_X10_fault ⟨w336, w337⟩ w335 dL_law_395 rfl (Nat.le_of_ble_eq_true rfl) (by omega) (by omega) rfl (Nat.le_of_ble_eq_true rfl) rfl kk) ?_
  refine And.imp_right (fun kk => z_aload_n (pc := 398) hG 2 rfl rfl dL_law_398 kk) ?_
  replace h := zbind h
  obtain ⟨v2, hv2, h⟩ := h
  replace h := zchk_some h
  obtain ⟨hqv2, h⟩ := h
  refine And.imp_right (fun kk => z_cvI (A' := A0 + (C / 64 - g.2.2.2 / 64)) (B' := B0 + 2 * (C - g.2.2.2)) (nc := 0) (ns := 0) (rest := [.int v1]) hG [] zc_X11 DL_42 (tX11_fault hl0  g hv2) zy_X11_fault ⟨w1691, w1692⟩ w1690 dL_law_399 rfl (Nat.le_of_ble_eq_true rfl) (by omega) (by omega) rfl (Nat.le_of_ble_eq_true rfl) rfl kk) ?_
  refine zpc (of_decide_eq_true hqv2) ?_
  by_cases hc : v1 = v2.1
  rotate_left
  · replace h := zif_f hc h
    cases h
  replace h := zif_t hc h
  refine And.imp_right (fun kk => z_icmp_eq (pc := 402) (tgt := 3017) hG dL_law_402 rfl (fun _ => kk) (fun q => (q hc).elim)) ?_
  obtain rfl := Option.some.inj h
  exact kf
noncomputable def nS_4 (a : Nat → Int32) (g : zS) : Option zS :=
  (nL_field (a 1) (a 2) g).bind fun v1 => zchk (decide (v1.2.2.2.2 = g.2.2.2)) ((nX11_field (a 1) (a 2) v1.2).bind fun v2 => zchk (decide (v2.2.2.2.2 = v1.2.2.2.2)) ((nX11_thrown v2.2).bind fun v3 => if v3 = v1.1 then (if v1.1 = 0 then (if (lg_cmp (v2.2.2.1 72 (0 : Int32).toNatClampNeg) v2.1.toInt64) = 0 then (some v2.2) else (none)) else (some v2.2)) else (none)))
set_option maxHeartbeats 1000000 in
theorem tS_4 {x : zXx} {i : Int32} {a : Nat → Int32} (hl0 : (zl0 x).flags = flags0) (hG : zG x cL_law 7 RL ret) (hPx : zPx x.2.2.2.2.1) (hS : zScr x i a) {A0 B0 C : Nat} (g : zS) {r : zS} (h : nS_4 a g = some r) (kf : zgr r C ∧ zK x 66 3017 [(0, .ref 950), (1, .ref 0), (2, .ref 42), (3, .ref 72), (4, .int i)] [] zD r (A0 + (C / 64 - r.2.2.2 / 64)) (B0 + 2 * (C - r.2.2.2))) : zgr g C ∧ zK x 66 407 [(0, .ref 950), (1, .ref 0), (2, .ref 42), (3, .ref 72), (4, .int i)] [] zD g (A0 + 2 + (C / 64 - g.2.2.2 / 64)) (B0 + 12 + 2 * (C - g.2.2.2)) := by
  unfold nS_4 at h
  refine And.imp_right (fun kk => z_aload_n (pc := 407) hG 1 rfl rfl dL_law_407 kk) ?_
  refine And.imp_right (fun kk => z_aload_n (pc := 408) hG 0 rfl rfl dL_law_408 kk) ?_
  refine And.imp_right (fun kk => z_iload (pc := 409) hG 4 rfl dL_law_409 kk) ?_
  refine And.imp_right (fun kk => z_iconst (pc := 411) hG kc_1 dL_law_411 kk) ?_
  refine And.imp_right (fun kk => z_iadd (pc := 412) hG dL_law_412 kk) ?_
  refine And.imp_right (fun kk => z_scr (pc := 413) hG hS 1 (by decide) rfl dL_law_413 kk) ?_
  refine And.imp_right (fun kk => z_aload_n (pc := 414) hG 0 rfl rfl dL_law_414 kk) ?_
  refine And.imp_right (fun kk => z_iload (pc := 415) hG 4 rfl dL_law_415 kk) ?_
  refine And.imp_right (fun kk => z_iconst (pc := 417) hG kc_2 dL_law_417 kk) ?_
  refine And.imp_right (fun kk => z_iadd (pc := 418) hG dL_law_418 kk) ?_
  refine And.imp_right (fun kk => z_scr (pc := 419) hG hS 2 (by decide) rfl dL_law_419 kk) ?_
  refine And.imp_right (fun kk => z_aload_n (pc := 420) hG 3 rfl rfl dL_law_420 kk) ?_
  replace h := zbind h
  obtain ⟨v1, hv1, h⟩ := h
  replace h := zchk_some h
  obtain ⟨hqv1, h⟩ := h
  refine And.imp_right (fun kk => z_csH (A' := A0 + (C / 64 - g.2.2.2 / 64)) (B' := B0 + 2 * (C - g.2.2.2)) (rest := []) hG hPx [.ref 0, .int (a 1), .int (a 2), .ref 72] (tL_field hl0 (a 1) (a 2) g hv1) zyH_field w825 w824 dL_law_421 rfl (Nat.le_of_ble_eq_true rfl) (by omega) (by omega) rfl (Nat.le_of_ble_eq_true rfl) rfl kk) ?_
  refine zpc (of_decide_eq_true hqv1) ?_
  refine And.imp_right (fun kk => z_istore (pc := 424) (ls' := [(5, .int v1.1), (0, .ref 950), (1, .ref 0), (2, .ref 42), (3, .ref 72), (4, .int i)]) hG [0, 1, 2, 3, 4, 5] (by decide) rfl dL_law_424 kk) ?_
  refine And.imp_right (fun kk => z_aload_n (pc := 426) hG 3 rfl rfl dL_law_426 kk) ?_
  refine And.imp_right (fun kk => z_aload_n (pc := 427) hG 1 rfl rfl dL_law_427 kk) ?_
  refine And.imp_right (fun kk => z_iload (pc := 428) hG 5 rfl dL_law_428 kk) ?_
  refine And.imp_right (fun kk => z_iconst (pc := 430) hG kc_1 dL_law_430 kk) ?_
  refine And.imp_right (fun kk => z_iadd (pc := 431) hG dL_law_431 kk) ?_
  refine And.imp_right (fun kk => z_scr (pc := 432) hG hS 1 (by decide) rfl dL_law_432 kk) ?_
  refine And.imp_right (fun kk => z_aload_n (pc := 433) hG 1 rfl rfl dL_law_433 kk) ?_
  refine And.imp_right (fun kk => z_iload (pc := 434) hG 5 rfl dL_law_434 kk) ?_
  refine And.imp_right (fun kk => z_iconst (pc := 436) hG kc_2 dL_law_436 kk) ?_
  refine And.imp_right (fun kk => z_iadd (pc := 437) hG dL_law_437 kk) ?_
  refine And.imp_right (fun kk => z_scr (pc := 438) hG hS 2 (by decide) rfl dL_law_438 kk) ?_
  replace h := zbind h
  obtain ⟨v2, hv2, h⟩ := h
  replace h := zchk_some h
  obtain ⟨hqv2, h⟩ := h
  refine And.imp_right (fun kk => z_cvI (A' := A0 + (C / 64 - v1.2.2.2.2 / 64)) (B' := B0 + 2 * (C - v1.2.2.2.2)) (nc := 0) (ns := 0) (rest := []) hG [.int (a 1), .int (a 2)] zc_X11 DL_42 (tX11_field hl0 (a 1) (a 2) v1.2 hv2) zy_X11_field ⟨w1695, w1696⟩ w1694 dL_law_439 rfl (Nat.le_of_ble_eq_true rfl) (by omega) (by omega) rfl (Nat.le_of_ble_eq_true rfl) rfl kk) ?_
  refine zpc (of_decide_eq_true hqv2) ?_
  refine And.imp_right (fun kk => z_istore (pc := 442) (ls' := [(6, .int v2.1), (5, .int v1.1), (0, .ref 950), (1, .ref 0), (2, .ref 42), (3, .ref 72), (4, .int i)]) hG [0, 1, 2, 3, 4, 5, 6] (by decide) rfl dL_law_442 kk) ?_
  refine And.imp_right (fun kk => z_aload_n (pc := 444) hG 4 rfl rfl dL_law_444 kk) ?_
  replace h := zbind h
  obtain ⟨v3, hv3, h⟩ := h
  refine And.imp_right (fun kk => z_cvI (A' := A0 + (C / 64 - v2.2.2.2.2 / 64)) (B' := B0 + 2 * (C - v2.2.2.2.2)) (nc := 0) (ns := 0) (rest := []) hG [] zc_X11 DL_42 (tX11_thrown hl0  v2.2 hv3) zy_X11_thrown ⟨w1595, w1596⟩ w1594 dL_law_445 rfl (Nat.le_of_ble_eq_true rfl) (by omega) (by omega) rfl (Nat.le_of_ble_eq_true rfl) rfl kk) ?_
  refine And.imp_right (fun kk => z_iload (pc := 448) hG 1 rfl dL_law_448 kk) ?_
  by_cases hc : v3 = v1.1
  rotate_left
  · replace h := zif_f hc h
    cases h
  replace h := zif_t hc h
  refine And.imp_right (fun kk => z_icmp_eq (pc := 450) (tgt := 455) hG dL_law_450 rfl (fun _ => kk) (fun q => (q hc).elim)) ?_
  refine And.imp_right (fun kk => z_iload (pc := 455) hG 1 rfl dL_law_455 kk) ?_
  refine zbr (c := v1.1 = 0) (fun hc => ?_) (fun hc => ?_) (fun k1 k2 => z_if_ne (pc := 457) (tgt := 472) hG dL_law_457 rfl k2 k1)
  · replace h := zif_t hc h
    refine And.imp_right (fun kk => z_aload_n (pc := 460) hG 5 rfl rfl dL_law_460 kk) ?_
    refine And.imp_right (fun kk => z_iconst (pc := 461) hG kc_0 dL_law_461 kk) ?_
    refine And.imp_right (fun kk => z_lald (pc := 462) hG DL_72 (zin_in (by decide)) dL_law_462 kk) ?_
    refine And.imp_right (fun kk => z_iload (pc := 463) hG 0 rfl dL_law_463 kk) ?_
    refine And.imp_right (fun kk => z_i2l (pc := 465) hG dL_law_465 kk) ?_
    refine And.imp_right (fun kk => z_lcmp (pc := 466) hG dL_law_466 kk) ?_
    by_cases hc : (lg_cmp (v2.2.2.1 72 (0 : Int32).toNatClampNeg) v2.1.toInt64) = 0
    rotate_left
    · replace h := zif_f hc h
      cases h
    replace h := zif_t hc h
    refine And.imp_right (fun kk => z_if_eq (pc := 467) (tgt := 472) hG dL_law_467 rfl (fun _ => kk) (fun q => (q hc).elim)) ?_
    refine And.imp_right (fun kk => z_goto (pc := 472) (tgt := 3017) hG dL_law_472 rfl kk) ?_
    obtain rfl := Option.some.inj h
    refine And.imp_right (fun kk => z_sub (ls' := [(0, .ref 950), (1, .ref 0), (2, .ref 42), (3, .ref 72), (4, .int i)]) [2, 3, 4, 5, 6] rfl kk) ?_
    exact kf
  · replace h := zif_f hc h
    refine And.imp_right (fun kk => z_goto (pc := 472) (tgt := 3017) hG dL_law_472 rfl kk) ?_
    obtain rfl := Option.some.inj h
    refine And.imp_right (fun kk => z_sub (ls' := [(0, .ref 950), (1, .ref 0), (2, .ref 42), (3, .ref 72), (4, .int i)]) [2, 3, 4, 5, 6] rfl kk) ?_
    exact kf
noncomputable def nS_5 (a : Nat → Int32) (g : zS) : Option zS :=
  (nL_name (a 1) (a 2) g).bind fun v1 => zchk (decide (v1.2.2.2.2 = g.2.2.2)) ((nX11_name (a 1) (a 2) v1.2).bind fun v2 => zchk (decide (v2.2.2.2.2 = v1.2.2.2.2)) ((nX11_thrown v2.2).bind fun v3 => if v3 = v1.1 then (if v1.1 = 0 then (if (lg_cmp (v2.2.2.1 72 (0 : Int32).toNatClampNeg) v2.1.toInt64) = 0 then (some v2.2) else (none)) else (some v2.2)) else (none)))
set_option maxHeartbeats 1000000 in
theorem tS_5 {x : zXx} {i : Int32} {a : Nat → Int32} (hl0 : (zl0 x).flags = flags0) (hG : zG x cL_law 7 RL ret) (hPx : zPx x.2.2.2.2.1) (hS : zScr x i a) {A0 B0 C : Nat} (g : zS) {r : zS} (h : nS_5 a g = some r) (kf : zgr r C ∧ zK x 66 3017 [(0, .ref 950), (1, .ref 0), (2, .ref 42), (3, .ref 72), (4, .int i)] [] zD r (A0 + (C / 64 - r.2.2.2 / 64)) (B0 + 2 * (C - r.2.2.2))) : zgr g C ∧ zK x 66 475 [(0, .ref 950), (1, .ref 0), (2, .ref 42), (3, .ref 72), (4, .int i)] [] zD g (A0 + 1 + (C / 64 - g.2.2.2 / 64)) (B0 + 6 + 2 * (C - g.2.2.2)) := by
  unfold nS_5 at h
  refine And.imp_right (fun kk => z_aload_n (pc := 475) hG 1 rfl rfl dL_law_475 kk) ?_
  refine And.imp_right (fun kk => z_aload_n (pc := 476) hG 0 rfl rfl dL_law_476 kk) ?_
  refine And.imp_right (fun kk => z_iload (pc := 477) hG 4 rfl dL_law_477 kk) ?_
  refine And.imp_right (fun kk => z_iconst (pc := 479) hG kc_1 dL_law_479 kk) ?_
  refine And.imp_right (fun kk => z_iadd (pc := 480) hG dL_law_480 kk) ?_
  refine And.imp_right (fun kk => z_scr (pc := 481) hG hS 1 (by decide) rfl dL_law_481 kk) ?_
  refine And.imp_right (fun kk => z_aload_n (pc := 482) hG 0 rfl rfl dL_law_482 kk) ?_
  refine And.imp_right (fun kk => z_iload (pc := 483) hG 4 rfl dL_law_483 kk) ?_
  refine And.imp_right (fun kk => z_iconst (pc := 485) hG kc_2 dL_law_485 kk) ?_
  refine And.imp_right (fun kk => z_iadd (pc := 486) hG dL_law_486 kk) ?_
  refine And.imp_right (fun kk => z_scr (pc := 487) hG hS 2 (by decide) rfl dL_law_487 kk) ?_
  refine And.imp_right (fun kk => z_aload_n (pc := 488) hG 3 rfl rfl dL_law_488 kk) ?_
  replace h := zbind h
  obtain ⟨v1, hv1, h⟩ := h
  replace h := zchk_some h
  obtain ⟨hqv1, h⟩ := h
  refine And.imp_right (fun kk => z_csH (A' := A0 + (C / 64 - g.2.2.2 / 64)) (B' := B0 + 2 * (C - g.2.2.2)) (rest := []) hG hPx [.ref 0, .int (a 1), .int (a 2), .ref 72] (tL_name hl0 (a 1) (a 2) g hv1) zyH_name w868 w867 dL_law_489 rfl (Nat.le_of_ble_eq_true rfl) (by omega) (by omega) rfl (Nat.le_of_ble_eq_true rfl) rfl kk) ?_
  refine zpc (of_decide_eq_true hqv1) ?_
  refine And.imp_right (fun kk => z_istore (pc := 492) (ls' := [(5, .int v1.1), (0, .ref 950), (1, .ref 0), (2, .ref 42), (3, .ref 72), (4, .int i)]) hG [0, 1, 2, 3, 4, 5] (by decide) rfl dL_law_492 kk) ?_
  refine And.imp_right (fun kk => z_aload_n (pc := 494) hG 3 rfl rfl dL_law_494 kk) ?_
  refine And.imp_right (fun kk => z_aload_n (pc := 495) hG 1 rfl rfl dL_law_495 kk) ?_
  refine And.imp_right (fun kk => z_iload (pc := 496) hG 5 rfl dL_law_496 kk) ?_
  refine And.imp_right (fun kk => z_iconst (pc := 498) hG kc_1 dL_law_498 kk) ?_
  refine And.imp_right (fun kk => z_iadd (pc := 499) hG dL_law_499 kk) ?_
  refine And.imp_right (fun kk => z_scr (pc := 500) hG hS 1 (by decide) rfl dL_law_500 kk) ?_
  refine And.imp_right (fun kk => z_aload_n (pc := 501) hG 1 rfl rfl dL_law_501 kk) ?_
  refine And.imp_right (fun kk => z_iload (pc := 502) hG 5 rfl dL_law_502 kk) ?_
  refine And.imp_right (fun kk => z_iconst (pc := 504) hG kc_2 dL_law_504 kk) ?_
  refine And.imp_right (fun kk => z_iadd (pc := 505) hG dL_law_505 kk) ?_
  refine And.imp_right (fun kk => z_scr (pc := 506) hG hS 2 (by decide) rfl dL_law_506 kk) ?_
  replace h := zbind h
  obtain ⟨v2, hv2, h⟩ := h
  replace h := zchk_some h
  obtain ⟨hqv2, h⟩ := h
  refine And.imp_right (fun kk => z_cvI (A' := A0 + (C / 64 - v1.2.2.2.2 / 64)) (B' := B0 + 2 * (C - v1.2.2.2.2)) (nc := 0) (ns := 0) (rest := []) hG [.int (a 1), .int (a 2)] zc_X11 DL_42 (tX11_name hl0 (a 1) (a 2) v1.2 hv2) zy_X11_name ⟨w1703, w1704⟩ w1702 dL_law_507 rfl (Nat.le_of_ble_eq_true rfl) (by omega) (by omega) rfl (Nat.le_of_ble_eq_true rfl) rfl kk) ?_
  refine zpc (of_decide_eq_true hqv2) ?_
  refine And.imp_right (fun kk => z_istore (pc := 510) (ls' := [(6, .int v2.1), (5, .int v1.1), (0, .ref 950), (1, .ref 0), (2, .ref 42), (3, .ref 72), (4, .int i)]) hG [0, 1, 2, 3, 4, 5, 6] (by decide) rfl dL_law_510 kk) ?_
  refine And.imp_right (fun kk => z_aload_n (pc := 512) hG 4 rfl rfl dL_law_512 kk) ?_
  replace h := zbind h
  obtain ⟨v3, hv3, h⟩ := h
  refine And.imp_right (fun kk => z_cvI (A' := A0 + (C / 64 - v2.2.2.2.2 / 64)) (B' := B0 + 2 * (C - v2.2.2.2.2)) (nc := 0) (ns := 0) (rest := []) hG [] zc_X11 DL_42 (tX11_thrown hl0  v2.2 hv3) zy_X11_thrown ⟨w1595, w1596⟩ w1594 dL_law_513 rfl (Nat.le_of_ble_eq_true rfl) (by omega) (by omega) rfl (Nat.le_of_ble_eq_true rfl) rfl kk) ?_
  refine And.imp_right (fun kk => z_iload (pc := 516) hG 1 rfl dL_law_516 kk) ?_
  by_cases hc : v3 = v1.1
  rotate_left
  · replace h := zif_f hc h
    cases h
  replace h := zif_t hc h
  refine And.imp_right (fun kk => z_icmp_eq (pc := 518) (tgt := 523) hG dL_law_518 rfl (fun _ => kk) (fun q => (q hc).elim)) ?_
  refine And.imp_right (fun kk => z_iload (pc := 523) hG 1 rfl dL_law_523 kk) ?_
  refine zbr (c := v1.1 = 0) (fun hc => ?_) (fun hc => ?_) (fun k1 k2 => z_if_ne (pc := 525) (tgt := 540) hG dL_law_525 rfl k2 k1)
  · replace h := zif_t hc h
    refine And.imp_right (fun kk => z_aload_n (pc := 528) hG 5 rfl rfl dL_law_528 kk) ?_
    refine And.imp_right (fun kk => z_iconst (pc := 529) hG kc_0 dL_law_529 kk) ?_
    refine And.imp_right (fun kk => z_lald (pc := 530) hG DL_72 (zin_in (by decide)) dL_law_530 kk) ?_
    refine And.imp_right (fun kk => z_iload (pc := 531) hG 0 rfl dL_law_531 kk) ?_
    refine And.imp_right (fun kk => z_i2l (pc := 533) hG dL_law_533 kk) ?_
    refine And.imp_right (fun kk => z_lcmp (pc := 534) hG dL_law_534 kk) ?_
    by_cases hc : (lg_cmp (v2.2.2.1 72 (0 : Int32).toNatClampNeg) v2.1.toInt64) = 0
    rotate_left
    · replace h := zif_f hc h
      cases h
    replace h := zif_t hc h
    refine And.imp_right (fun kk => z_if_eq (pc := 535) (tgt := 540) hG dL_law_535 rfl (fun _ => kk) (fun q => (q hc).elim)) ?_
    refine And.imp_right (fun kk => z_goto (pc := 540) (tgt := 3017) hG dL_law_540 rfl kk) ?_
    obtain rfl := Option.some.inj h
    refine And.imp_right (fun kk => z_sub (ls' := [(0, .ref 950), (1, .ref 0), (2, .ref 42), (3, .ref 72), (4, .int i)]) [2, 3, 4, 5, 6] rfl kk) ?_
    exact kf
  · replace h := zif_f hc h
    refine And.imp_right (fun kk => z_goto (pc := 540) (tgt := 3017) hG dL_law_540 rfl kk) ?_
    obtain rfl := Option.some.inj h
    refine And.imp_right (fun kk => z_sub (ls' := [(0, .ref 950), (1, .ref 0), (2, .ref 42), (3, .ref 72), (4, .int i)]) [2, 3, 4, 5, 6] rfl kk) ?_
    exact kf
noncomputable def nS_6 (a : Nat → Int32) (g : zS) : Option zS :=
  (nL_edit (a 1) (a 2) g).bind fun v1 => zchk (decide (v1.2.2.2.2 = g.2.2.2)) ((nX11_edit (a 1) (a 2) v1.2).bind fun v2 => zchk (decide (v2.2.2.2.2 = v1.2.2.2.2)) ((nX11_thrown v2.2).bind fun v3 => if v3 = v1.1 then (if v1.1 = 0 then (if (lg_cmp (v2.2.2.1 72 (0 : Int32).toNatClampNeg) v2.1.toInt64) = 0 then (some v2.2) else (none)) else (some v2.2)) else (none)))
set_option maxHeartbeats 1000000 in
theorem tS_6 {x : zXx} {i : Int32} {a : Nat → Int32} (hl0 : (zl0 x).flags = flags0) (hG : zG x cL_law 7 RL ret) (hPx : zPx x.2.2.2.2.1) (hS : zScr x i a) {A0 B0 C : Nat} (g : zS) {r : zS} (h : nS_6 a g = some r) (kf : zgr r C ∧ zK x 66 3017 [(0, .ref 950), (1, .ref 0), (2, .ref 42), (3, .ref 72), (4, .int i)] [] zD r (A0 + (C / 64 - r.2.2.2 / 64)) (B0 + 2 * (C - r.2.2.2))) : zgr g C ∧ zK x 66 543 [(0, .ref 950), (1, .ref 0), (2, .ref 42), (3, .ref 72), (4, .int i)] [] zD g (A0 + 2 + (C / 64 - g.2.2.2 / 64)) (B0 + 12 + 2 * (C - g.2.2.2)) := by
  unfold nS_6 at h
  refine And.imp_right (fun kk => z_aload_n (pc := 543) hG 1 rfl rfl dL_law_543 kk) ?_
  refine And.imp_right (fun kk => z_aload_n (pc := 544) hG 0 rfl rfl dL_law_544 kk) ?_
  refine And.imp_right (fun kk => z_iload (pc := 545) hG 4 rfl dL_law_545 kk) ?_
  refine And.imp_right (fun kk => z_iconst (pc := 547) hG kc_1 dL_law_547 kk) ?_
  refine And.imp_right (fun kk => z_iadd (pc := 548) hG dL_law_548 kk) ?_
  refine And.imp_right (fun kk => z_scr (pc := 549) hG hS 1 (by decide) rfl dL_law_549 kk) ?_
  refine And.imp_right (fun kk => z_aload_n (pc := 550) hG 0 rfl rfl dL_law_550 kk) ?_
  refine And.imp_right (fun kk => z_iload (pc := 551) hG 4 rfl dL_law_551 kk) ?_
  refine And.imp_right (fun kk => z_iconst (pc := 553) hG kc_2 dL_law_553 kk) ?_
  refine And.imp_right (fun kk => z_iadd (pc := 554) hG dL_law_554 kk) ?_
  refine And.imp_right (fun kk => z_scr (pc := 555) hG hS 2 (by decide) rfl dL_law_555 kk) ?_
  refine And.imp_right (fun kk => z_aload_n (pc := 556) hG 3 rfl rfl dL_law_556 kk) ?_
  replace h := zbind h
  obtain ⟨v1, hv1, h⟩ := h
  replace h := zchk_some h
  obtain ⟨hqv1, h⟩ := h
  refine And.imp_right (fun kk => z_csH (A' := A0 + (C / 64 - g.2.2.2 / 64)) (B' := B0 + 2 * (C - g.2.2.2)) (rest := []) hG hPx [.ref 0, .int (a 1), .int (a 2), .ref 72] (tL_edit hl0 (a 1) (a 2) g hv1) zyH_edit w876 w875 dL_law_557 rfl (Nat.le_of_ble_eq_true rfl) (by omega) (by omega) rfl (Nat.le_of_ble_eq_true rfl) rfl kk) ?_
  refine zpc (of_decide_eq_true hqv1) ?_
  refine And.imp_right (fun kk => z_istore (pc := 560) (ls' := [(5, .int v1.1), (0, .ref 950), (1, .ref 0), (2, .ref 42), (3, .ref 72), (4, .int i)]) hG [0, 1, 2, 3, 4, 5] (by decide) rfl dL_law_560 kk) ?_
  refine And.imp_right (fun kk => z_aload_n (pc := 562) hG 3 rfl rfl dL_law_562 kk) ?_
  refine And.imp_right (fun kk => z_aload_n (pc := 563) hG 1 rfl rfl dL_law_563 kk) ?_
  refine And.imp_right (fun kk => z_iload (pc := 564) hG 5 rfl dL_law_564 kk) ?_
  refine And.imp_right (fun kk => z_iconst (pc := 566) hG kc_1 dL_law_566 kk) ?_
  refine And.imp_right (fun kk => z_iadd (pc := 567) hG dL_law_567 kk) ?_
  refine And.imp_right (fun kk => z_scr (pc := 568) hG hS 1 (by decide) rfl dL_law_568 kk) ?_
  refine And.imp_right (fun kk => z_aload_n (pc := 569) hG 1 rfl rfl dL_law_569 kk) ?_
  refine And.imp_right (fun kk => z_iload (pc := 570) hG 5 rfl dL_law_570 kk) ?_
  refine And.imp_right (fun kk => z_iconst (pc := 572) hG kc_2 dL_law_572 kk) ?_
  refine And.imp_right (fun kk => z_iadd (pc := 573) hG dL_law_573 kk) ?_
  refine And.imp_right (fun kk => z_scr (pc := 574) hG hS 2 (by decide) rfl dL_law_574 kk) ?_
  replace h := zbind h
  obtain ⟨v2, hv2, h⟩ := h
  replace h := zchk_some h
  obtain ⟨hqv2, h⟩ := h
  refine And.imp_right (fun kk => z_cvI (A' := A0 + (C / 64 - v1.2.2.2.2 / 64)) (B' := B0 + 2 * (C - v1.2.2.2.2)) (nc := 0) (ns := 0) (rest := []) hG [.int (a 1), .int (a 2)] zc_X11 DL_42 (tX11_edit hl0 (a 1) (a 2) v1.2 hv2) zy_X11_edit ⟨w1713, w1714⟩ w1712 dL_law_575 rfl (Nat.le_of_ble_eq_true rfl) (by omega) (by omega) rfl (Nat.le_of_ble_eq_true rfl) rfl kk) ?_
  refine zpc (of_decide_eq_true hqv2) ?_
  refine And.imp_right (fun kk => z_istore (pc := 578) (ls' := [(6, .int v2.1), (5, .int v1.1), (0, .ref 950), (1, .ref 0), (2, .ref 42), (3, .ref 72), (4, .int i)]) hG [0, 1, 2, 3, 4, 5, 6] (by decide) rfl dL_law_578 kk) ?_
  refine And.imp_right (fun kk => z_aload_n (pc := 580) hG 4 rfl rfl dL_law_580 kk) ?_
  replace h := zbind h
  obtain ⟨v3, hv3, h⟩ := h
  refine And.imp_right (fun kk => z_cvI (A' := A0 + (C / 64 - v2.2.2.2.2 / 64)) (B' := B0 + 2 * (C - v2.2.2.2.2)) (nc := 0) (ns := 0) (rest := []) hG [] zc_X11 DL_42 (tX11_thrown hl0  v2.2 hv3) zy_X11_thrown ⟨w1595, w1596⟩ w1594 dL_law_581 rfl (Nat.le_of_ble_eq_true rfl) (by omega) (by omega) rfl (Nat.le_of_ble_eq_true rfl) rfl kk) ?_
  refine And.imp_right (fun kk => z_iload (pc := 584) hG 1 rfl dL_law_584 kk) ?_
  by_cases hc : v3 = v1.1
  rotate_left
  · replace h := zif_f hc h
    cases h
  replace h := zif_t hc h
  refine And.imp_right (fun kk => z_icmp_eq (pc := 586) (tgt := 591) hG dL_law_586 rfl (fun _ => kk) (fun q => (q hc).elim)) ?_
  refine And.imp_right (fun kk => z_iload (pc := 591) hG 1 rfl dL_law_591 kk) ?_
  refine zbr (c := v1.1 = 0) (fun hc => ?_) (fun hc => ?_) (fun k1 k2 => z_if_ne (pc := 593) (tgt := 608) hG dL_law_593 rfl k2 k1)
  · replace h := zif_t hc h
    refine And.imp_right (fun kk => z_aload_n (pc := 596) hG 5 rfl rfl dL_law_596 kk) ?_
    refine And.imp_right (fun kk => z_iconst (pc := 597) hG kc_0 dL_law_597 kk) ?_
    refine And.imp_right (fun kk => z_lald (pc := 598) hG DL_72 (zin_in (by decide)) dL_law_598 kk) ?_
    refine And.imp_right (fun kk => z_iload (pc := 599) hG 0 rfl dL_law_599 kk) ?_
    refine And.imp_right (fun kk => z_i2l (pc := 601) hG dL_law_601 kk) ?_
    refine And.imp_right (fun kk => z_lcmp (pc := 602) hG dL_law_602 kk) ?_
    by_cases hc : (lg_cmp (v2.2.2.1 72 (0 : Int32).toNatClampNeg) v2.1.toInt64) = 0
    rotate_left
    · replace h := zif_f hc h
      cases h
    replace h := zif_t hc h
    refine And.imp_right (fun kk => z_if_eq (pc := 603) (tgt := 608) hG dL_law_603 rfl (fun _ => kk) (fun q => (q hc).elim)) ?_
    refine And.imp_right (fun kk => z_goto (pc := 608) (tgt := 3017) hG dL_law_608 rfl kk) ?_
    obtain rfl := Option.some.inj h
    refine And.imp_right (fun kk => z_sub (ls' := [(0, .ref 950), (1, .ref 0), (2, .ref 42), (3, .ref 72), (4, .int i)]) [2, 3, 4, 5, 6] rfl kk) ?_
    exact kf
  · replace h := zif_f hc h
    refine And.imp_right (fun kk => z_goto (pc := 608) (tgt := 3017) hG dL_law_608 rfl kk) ?_
    obtain rfl := Option.some.inj h
    refine And.imp_right (fun kk => z_sub (ls' := [(0, .ref 950), (1, .ref 0), (2, .ref 42), (3, .ref 72), (4, .int i)]) [2, 3, 4, 5, 6] rfl kk) ?_
    exact kf
noncomputable def nS_7 (a : Nat → Int32) (g : zS) : Option zS :=
  (nL_from (a 1) g).bind fun v1 => zchk (decide (g.2.2.2 ≤ v1.2.2.2.2)) ((nX11_from (a 1) v1.2).bind fun v2 => zchk (decide (v2.2.2.2.2 = v1.2.2.2.2)) ((nX11_thrown v2.2).bind fun v3 => if v3 = v1.1 then (if v1.1 = 0 then (if (lg_cmp (v2.2.2.1 72 (0 : Int32).toNatClampNeg) v2.1.toInt64) = 0 then (some v2.2) else (none)) else (some v2.2)) else (none)))
set_option maxHeartbeats 1000000 in
theorem tS_7 {x : zXx} {i : Int32} {a : Nat → Int32} (hl0 : (zl0 x).flags = flags0) (hG : zG x cL_law 7 RL ret) (hPx : zPx x.2.2.2.2.1) (hS : zScr x i a) {A0 B0 C : Nat} (g : zS) {r : zS} (h : nS_7 a g = some r) (kf : zgr r C ∧ zK x 66 3017 [(0, .ref 950), (1, .ref 0), (2, .ref 42), (3, .ref 72), (4, .int i)] [] zD r (A0 + (C / 64 - r.2.2.2 / 64)) (B0 + 2 * (C - r.2.2.2))) : zgr g C ∧ zK x 66 611 [(0, .ref 950), (1, .ref 0), (2, .ref 42), (3, .ref 72), (4, .int i)] [] zD g (A0 + 1 + (C / 64 - g.2.2.2 / 64)) (B0 + 6 + 2 * (C - g.2.2.2)) := by
  unfold nS_7 at h
  refine And.imp_right (fun kk => z_aload_n (pc := 611) hG 1 rfl rfl dL_law_611 kk) ?_
  refine And.imp_right (fun kk => z_aload_n (pc := 612) hG 0 rfl rfl dL_law_612 kk) ?_
  refine And.imp_right (fun kk => z_iload (pc := 613) hG 4 rfl dL_law_613 kk) ?_
  refine And.imp_right (fun kk => z_iconst (pc := 615) hG kc_1 dL_law_615 kk) ?_
  refine And.imp_right (fun kk => z_iadd (pc := 616) hG dL_law_616 kk) ?_
  refine And.imp_right (fun kk => z_scr (pc := 617) hG hS 1 (by decide) rfl dL_law_617 kk) ?_
  refine And.imp_right (fun kk => z_aload_n (pc := 618) hG 3 rfl rfl dL_law_618 kk) ?_
  replace h := zbind h
  obtain ⟨v1, hv1, h⟩ := h
  replace h := zchk_some h
  obtain ⟨hqv1, h⟩ := h
  replace hqv1 := of_decide_eq_true hqv1
  refine And.elim (fun hb kk => ⟨Nat.le_trans hqv1 hb, z_csH (A' := A0 + (C / 64 - v1.2.2.2.2 / 64)) (B' := B0 + 2 * (C - v1.2.2.2.2)) (rest := []) hG hPx [.ref 0, .int (a 1), .ref 72] (tL_from hl0 (a 1) g hv1) zyH_from w888 w887 dL_law_619 rfl (Nat.le_of_ble_eq_true rfl) (by have hb : v1.2.2.2.2 ≤ C := hb; omega) (by have hb : v1.2.2.2.2 ≤ C := hb; omega) rfl (Nat.le_of_ble_eq_true rfl) rfl kk⟩) ?_
  refine And.imp_right (fun kk => z_istore (pc := 622) (ls' := [(5, .int v1.1), (0, .ref 950), (1, .ref 0), (2, .ref 42), (3, .ref 72), (4, .int i)]) hG [0, 1, 2, 3, 4, 5] (by decide) rfl dL_law_622 kk) ?_
  refine And.imp_right (fun kk => z_aload_n (pc := 624) hG 3 rfl rfl dL_law_624 kk) ?_
  refine And.imp_right (fun kk => z_aload_n (pc := 625) hG 1 rfl rfl dL_law_625 kk) ?_
  refine And.imp_right (fun kk => z_iload (pc := 626) hG 5 rfl dL_law_626 kk) ?_
  refine And.imp_right (fun kk => z_iconst (pc := 628) hG kc_1 dL_law_628 kk) ?_
  refine And.imp_right (fun kk => z_iadd (pc := 629) hG dL_law_629 kk) ?_
  refine And.imp_right (fun kk => z_scr (pc := 630) hG hS 1 (by decide) rfl dL_law_630 kk) ?_
  replace h := zbind h
  obtain ⟨v2, hv2, h⟩ := h
  replace h := zchk_some h
  obtain ⟨hqv2, h⟩ := h
  refine And.imp_right (fun kk => z_cvI (A' := A0 + (C / 64 - v1.2.2.2.2 / 64)) (B' := B0 + 2 * (C - v1.2.2.2.2)) (nc := 0) (ns := 0) (rest := []) hG [.int (a 1)] zc_X11 DL_42 (tX11_from hl0 (a 1) v1.2 hv2) zy_X11_from ⟨w1721, w1722⟩ w1720 dL_law_631 rfl (Nat.le_of_ble_eq_true rfl) (by omega) (by omega) rfl (Nat.le_of_ble_eq_true rfl) rfl kk) ?_
  refine zpc (of_decide_eq_true hqv2) ?_
  refine And.imp_right (fun kk => z_istore (pc := 634) (ls' := [(6, .int v2.1), (5, .int v1.1), (0, .ref 950), (1, .ref 0), (2, .ref 42), (3, .ref 72), (4, .int i)]) hG [0, 1, 2, 3, 4, 5, 6] (by decide) rfl dL_law_634 kk) ?_
  refine And.imp_right (fun kk => z_aload_n (pc := 636) hG 4 rfl rfl dL_law_636 kk) ?_
  replace h := zbind h
  obtain ⟨v3, hv3, h⟩ := h
  refine And.imp_right (fun kk => z_cvI (A' := A0 + (C / 64 - v2.2.2.2.2 / 64)) (B' := B0 + 2 * (C - v2.2.2.2.2)) (nc := 0) (ns := 0) (rest := []) hG [] zc_X11 DL_42 (tX11_thrown hl0  v2.2 hv3) zy_X11_thrown ⟨w1595, w1596⟩ w1594 dL_law_637 rfl (Nat.le_of_ble_eq_true rfl) (by omega) (by omega) rfl (Nat.le_of_ble_eq_true rfl) rfl kk) ?_
  refine And.imp_right (fun kk => z_iload (pc := 640) hG 1 rfl dL_law_640 kk) ?_
  by_cases hc : v3 = v1.1
  rotate_left
  · replace h := zif_f hc h
    cases h
  replace h := zif_t hc h
  refine And.imp_right (fun kk => z_icmp_eq (pc := 642) (tgt := 647) hG dL_law_642 rfl (fun _ => kk) (fun q => (q hc).elim)) ?_
  refine And.imp_right (fun kk => z_iload (pc := 647) hG 1 rfl dL_law_647 kk) ?_
  refine zbr (c := v1.1 = 0) (fun hc => ?_) (fun hc => ?_) (fun k1 k2 => z_if_ne (pc := 649) (tgt := 664) hG dL_law_649 rfl k2 k1)
  · replace h := zif_t hc h
    refine And.imp_right (fun kk => z_aload_n (pc := 652) hG 5 rfl rfl dL_law_652 kk) ?_
    refine And.imp_right (fun kk => z_iconst (pc := 653) hG kc_0 dL_law_653 kk) ?_
    refine And.imp_right (fun kk => z_lald (pc := 654) hG DL_72 (zin_in (by decide)) dL_law_654 kk) ?_
    refine And.imp_right (fun kk => z_iload (pc := 655) hG 0 rfl dL_law_655 kk) ?_
    refine And.imp_right (fun kk => z_i2l (pc := 657) hG dL_law_657 kk) ?_
    refine And.imp_right (fun kk => z_lcmp (pc := 658) hG dL_law_658 kk) ?_
    by_cases hc : (lg_cmp (v2.2.2.1 72 (0 : Int32).toNatClampNeg) v2.1.toInt64) = 0
    rotate_left
    · replace h := zif_f hc h
      cases h
    replace h := zif_t hc h
    refine And.imp_right (fun kk => z_if_eq (pc := 659) (tgt := 664) hG dL_law_659 rfl (fun _ => kk) (fun q => (q hc).elim)) ?_
    refine And.imp_right (fun kk => z_goto (pc := 664) (tgt := 3017) hG dL_law_664 rfl kk) ?_
    obtain rfl := Option.some.inj h
    refine And.imp_right (fun kk => z_sub (ls' := [(0, .ref 950), (1, .ref 0), (2, .ref 42), (3, .ref 72), (4, .int i)]) [2, 3, 4, 5, 6] rfl kk) ?_
    exact kf
  · replace h := zif_f hc h
    refine And.imp_right (fun kk => z_goto (pc := 664) (tgt := 3017) hG dL_law_664 rfl kk) ?_
    obtain rfl := Option.some.inj h
    refine And.imp_right (fun kk => z_sub (ls' := [(0, .ref 950), (1, .ref 0), (2, .ref 42), (3, .ref 72), (4, .int i)]) [2, 3, 4, 5, 6] rfl kk) ?_
    exact kf
noncomputable def nS_8 (a : Nat → Int32) (g : zS) : Option zS :=
  if (a 2) = 0 then ((nL_cover (a 1) (0 : Int32) g).bind fun v1 => zchk (decide (g.2.2.2 ≤ v1.2.2.2.2)) (if (a 2) = 0 then ((nX11_cover (a 1) (0 : Int32) v1.2).bind fun v2 => zchk (decide (v2.2.2.2.2 = v1.2.2.2.2)) ((nX11_thrown v2.2).bind fun v3 => if v3 = v1.1 then (if v1.1 = 0 then (if (lg_cmp (v2.2.2.1 72 (0 : Int32).toNatClampNeg) v2.1.toInt64) = 0 then (some v2.2) else (none)) else (some v2.2)) else (none))) else ((nX11_cover (a 1) (1 : Int32) v1.2).bind fun v4 => zchk (decide (v4.2.2.2.2 = v1.2.2.2.2)) ((nX11_thrown v4.2).bind fun v5 => if v5 = v1.1 then (if v1.1 = 0 then (if (lg_cmp (v4.2.2.1 72 (0 : Int32).toNatClampNeg) v4.1.toInt64) = 0 then (some v4.2) else (none)) else (some v4.2)) else (none))))) else ((nL_cover (a 1) (1 : Int32) g).bind fun v6 => zchk (decide (g.2.2.2 ≤ v6.2.2.2.2)) (if (a 2) = 0 then ((nX11_cover (a 1) (0 : Int32) v6.2).bind fun v7 => zchk (decide (v7.2.2.2.2 = v6.2.2.2.2)) ((nX11_thrown v7.2).bind fun v8 => if v8 = v6.1 then (if v6.1 = 0 then (if (lg_cmp (v7.2.2.1 72 (0 : Int32).toNatClampNeg) v7.1.toInt64) = 0 then (some v7.2) else (none)) else (some v7.2)) else (none))) else ((nX11_cover (a 1) (1 : Int32) v6.2).bind fun v9 => zchk (decide (v9.2.2.2.2 = v6.2.2.2.2)) ((nX11_thrown v9.2).bind fun v10 => if v10 = v6.1 then (if v6.1 = 0 then (if (lg_cmp (v9.2.2.1 72 (0 : Int32).toNatClampNeg) v9.1.toInt64) = 0 then (some v9.2) else (none)) else (some v9.2)) else (none)))))
set_option maxHeartbeats 1000000 in
theorem tS_8 {x : zXx} {i : Int32} {a : Nat → Int32} (hl0 : (zl0 x).flags = flags0) (hG : zG x cL_law 7 RL ret) (hPx : zPx x.2.2.2.2.1) (hS : zScr x i a) {A0 B0 C : Nat} (g : zS) {r : zS} (h : nS_8 a g = some r) (kf : zgr r C ∧ zK x 66 3017 [(0, .ref 950), (1, .ref 0), (2, .ref 42), (3, .ref 72), (4, .int i)] [] zD r (A0 + (C / 64 - r.2.2.2 / 64)) (B0 + 2 * (C - r.2.2.2))) : zgr g C ∧ zK x 66 667 [(0, .ref 950), (1, .ref 0), (2, .ref 42), (3, .ref 72), (4, .int i)] [] zD g (A0 + 1 + (C / 64 - g.2.2.2 / 64)) (B0 + 6 + 2 * (C - g.2.2.2)) := by
  unfold nS_8 at h
  refine And.imp_right (fun kk => z_aload_n (pc := 667) hG 1 rfl rfl dL_law_667 kk) ?_
  refine And.imp_right (fun kk => z_aload_n (pc := 668) hG 0 rfl rfl dL_law_668 kk) ?_
  refine And.imp_right (fun kk => z_iload (pc := 669) hG 4 rfl dL_law_669 kk) ?_
  refine And.imp_right (fun kk => z_iconst (pc := 671) hG kc_1 dL_law_671 kk) ?_
  refine And.imp_right (fun kk => z_iadd (pc := 672) hG dL_law_672 kk) ?_
  refine And.imp_right (fun kk => z_scr (pc := 673) hG hS 1 (by decide) rfl dL_law_673 kk) ?_
  refine And.imp_right (fun kk => z_aload_n (pc := 674) hG 0 rfl rfl dL_law_674 kk) ?_
  refine And.imp_right (fun kk => z_iload (pc := 675) hG 4 rfl dL_law_675 kk) ?_
  refine And.imp_right (fun kk => z_iconst (pc := 677) hG kc_2 dL_law_677 kk) ?_
  refine And.imp_right (fun kk => z_iadd (pc := 678) hG dL_law_678 kk) ?_
  refine And.imp_right (fun kk => z_scr (pc := 679) hG hS 2 (by decide) rfl dL_law_679 kk) ?_
  refine zbr (c := (a 2) = 0) (fun hc => ?_) (fun hc => ?_) (fun k1 k2 => z_if_eq (pc := 680) (tgt := 687) hG dL_law_680 rfl k1 k2)
  · replace h := zif_t hc h
    refine And.imp_right (fun kk => z_iconst (pc := 687) hG kc_0 dL_law_687 kk) ?_
    refine And.imp_right (fun kk => z_aload_n (pc := 688) hG 3 rfl rfl dL_law_688 kk) ?_
    replace h := zbind h
    obtain ⟨v1, hv1, h⟩ := h
    replace h := zchk_some h
    obtain ⟨hqv1, h⟩ := h
    replace hqv1 := of_decide_eq_true hqv1
    refine And.elim (fun hb kk => ⟨Nat.le_trans hqv1 hb, z_csH (A' := A0 + (C / 64 - v1.2.2.2.2 / 64)) (B' := B0 + 2 * (C - v1.2.2.2.2)) (rest := []) hG hPx [.ref 0, .int (a 1), .int (0 : Int32), .ref 72] (tL_cover hl0 (a 1) (0 : Int32) g hv1) zyH_cover w910 w909 dL_law_689 rfl (Nat.le_of_ble_eq_true rfl) (by have hb : v1.2.2.2.2 ≤ C := hb; omega) (by have hb : v1.2.2.2.2 ≤ C := hb; omega) rfl (Nat.le_of_ble_eq_true rfl) rfl kk⟩) ?_
    refine And.imp_right (fun kk => z_istore (pc := 692) (ls' := [(5, .int v1.1), (0, .ref 950), (1, .ref 0), (2, .ref 42), (3, .ref 72), (4, .int i)]) hG [0, 1, 2, 3, 4, 5] (by decide) rfl dL_law_692 kk) ?_
    refine And.imp_right (fun kk => z_aload_n (pc := 694) hG 3 rfl rfl dL_law_694 kk) ?_
    refine And.imp_right (fun kk => z_aload_n (pc := 695) hG 1 rfl rfl dL_law_695 kk) ?_
    refine And.imp_right (fun kk => z_iload (pc := 696) hG 5 rfl dL_law_696 kk) ?_
    refine And.imp_right (fun kk => z_iconst (pc := 698) hG kc_1 dL_law_698 kk) ?_
    refine And.imp_right (fun kk => z_iadd (pc := 699) hG dL_law_699 kk) ?_
    refine And.imp_right (fun kk => z_scr (pc := 700) hG hS 1 (by decide) rfl dL_law_700 kk) ?_
    refine And.imp_right (fun kk => z_aload_n (pc := 701) hG 1 rfl rfl dL_law_701 kk) ?_
    refine And.imp_right (fun kk => z_iload (pc := 702) hG 5 rfl dL_law_702 kk) ?_
    refine And.imp_right (fun kk => z_iconst (pc := 704) hG kc_2 dL_law_704 kk) ?_
    refine And.imp_right (fun kk => z_iadd (pc := 705) hG dL_law_705 kk) ?_
    refine And.imp_right (fun kk => z_scr (pc := 706) hG hS 2 (by decide) rfl dL_law_706 kk) ?_
    refine zbr (c := (a 2) = 0) (fun hc => ?_) (fun hc => ?_) (fun k1 k2 => z_if_eq (pc := 707) (tgt := 714) hG dL_law_707 rfl k1 k2)
    · replace h := zif_t hc h
      refine And.imp_right (fun kk => z_iconst (pc := 714) hG kc_0 dL_law_714 kk) ?_
      replace h := zbind h
      obtain ⟨v2, hv2, h⟩ := h
      replace h := zchk_some h
      obtain ⟨hqv2, h⟩ := h
      refine And.imp_right (fun kk => z_cvI (A' := A0 + (C / 64 - v1.2.2.2.2 / 64)) (B' := B0 + 2 * (C - v1.2.2.2.2)) (nc := 0) (ns := 0) (rest := []) hG [.int (a 1), .int (0 : Int32)] zc_X11 DL_42 (tX11_cover hl0 (a 1) (0 : Int32) v1.2 hv2) zy_X11_cover ⟨w1933, w1934⟩ w1932 dL_law_715 rfl (Nat.le_of_ble_eq_true rfl) (by omega) (by omega) rfl (Nat.le_of_ble_eq_true rfl) rfl kk) ?_
      refine zpc (of_decide_eq_true hqv2) ?_
      refine And.imp_right (fun kk => z_istore (pc := 718) (ls' := [(6, .int v2.1), (5, .int v1.1), (0, .ref 950), (1, .ref 0), (2, .ref 42), (3, .ref 72), (4, .int i)]) hG [0, 1, 2, 3, 4, 5, 6] (by decide) rfl dL_law_718 kk) ?_
      refine And.imp_right (fun kk => z_aload_n (pc := 720) hG 4 rfl rfl dL_law_720 kk) ?_
      replace h := zbind h
      obtain ⟨v3, hv3, h⟩ := h
      refine And.imp_right (fun kk => z_cvI (A' := A0 + (C / 64 - v2.2.2.2.2 / 64)) (B' := B0 + 2 * (C - v2.2.2.2.2)) (nc := 0) (ns := 0) (rest := []) hG [] zc_X11 DL_42 (tX11_thrown hl0  v2.2 hv3) zy_X11_thrown ⟨w1595, w1596⟩ w1594 dL_law_721 rfl (Nat.le_of_ble_eq_true rfl) (by omega) (by omega) rfl (Nat.le_of_ble_eq_true rfl) rfl kk) ?_
      refine And.imp_right (fun kk => z_iload (pc := 724) hG 1 rfl dL_law_724 kk) ?_
      by_cases hc : v3 = v1.1
      rotate_left
      · replace h := zif_f hc h
        cases h
      replace h := zif_t hc h
      refine And.imp_right (fun kk => z_icmp_eq (pc := 726) (tgt := 731) hG dL_law_726 rfl (fun _ => kk) (fun q => (q hc).elim)) ?_
      refine And.imp_right (fun kk => z_iload (pc := 731) hG 1 rfl dL_law_731 kk) ?_
      refine zbr (c := v1.1 = 0) (fun hc => ?_) (fun hc => ?_) (fun k1 k2 => z_if_ne (pc := 733) (tgt := 748) hG dL_law_733 rfl k2 k1)
      · replace h := zif_t hc h
        refine And.imp_right (fun kk => z_aload_n (pc := 736) hG 5 rfl rfl dL_law_736 kk) ?_
        refine And.imp_right (fun kk => z_iconst (pc := 737) hG kc_0 dL_law_737 kk) ?_
        refine And.imp_right (fun kk => z_lald (pc := 738) hG DL_72 (zin_in (by decide)) dL_law_738 kk) ?_
        refine And.imp_right (fun kk => z_iload (pc := 739) hG 0 rfl dL_law_739 kk) ?_
        refine And.imp_right (fun kk => z_i2l (pc := 741) hG dL_law_741 kk) ?_
        refine And.imp_right (fun kk => z_lcmp (pc := 742) hG dL_law_742 kk) ?_
        by_cases hc : (lg_cmp (v2.2.2.1 72 (0 : Int32).toNatClampNeg) v2.1.toInt64) = 0
        rotate_left
        · replace h := zif_f hc h
          cases h
        replace h := zif_t hc h
        refine And.imp_right (fun kk => z_if_eq (pc := 743) (tgt := 748) hG dL_law_743 rfl (fun _ => kk) (fun q => (q hc).elim)) ?_
        refine And.imp_right (fun kk => z_goto (pc := 748) (tgt := 3017) hG dL_law_748 rfl kk) ?_
        obtain rfl := Option.some.inj h
        refine And.imp_right (fun kk => z_sub (ls' := [(0, .ref 950), (1, .ref 0), (2, .ref 42), (3, .ref 72), (4, .int i)]) [2, 3, 4, 5, 6] rfl kk) ?_
        exact kf
      · replace h := zif_f hc h
        refine And.imp_right (fun kk => z_goto (pc := 748) (tgt := 3017) hG dL_law_748 rfl kk) ?_
        obtain rfl := Option.some.inj h
        refine And.imp_right (fun kk => z_sub (ls' := [(0, .ref 950), (1, .ref 0), (2, .ref 42), (3, .ref 72), (4, .int i)]) [2, 3, 4, 5, 6] rfl kk) ?_
        exact kf
    · replace h := zif_f hc h
      refine And.imp_right (fun kk => z_iconst (pc := 710) hG kc_1 dL_law_710 kk) ?_
      refine And.imp_right (fun kk => z_goto (pc := 711) (tgt := 715) hG dL_law_711 rfl kk) ?_
      replace h := zbind h
      obtain ⟨v4, hv4, h⟩ := h
      replace h := zchk_some h
      obtain ⟨hqv4, h⟩ := h
      refine And.imp_right (fun kk => z_cvI (A' := A0 + (C / 64 - v1.2.2.2.2 / 64)) (B' := B0 + 2 * (C - v1.2.2.2.2)) (nc := 0) (ns := 0) (rest := []) hG [.int (a 1), .int (1 : Int32)] zc_X11 DL_42 (tX11_cover hl0 (a 1) (1 : Int32) v1.2 hv4) zy_X11_cover ⟨w1933, w1934⟩ w1932 dL_law_715 rfl (Nat.le_of_ble_eq_true rfl) (by omega) (by omega) rfl (Nat.le_of_ble_eq_true rfl) rfl kk) ?_
      refine zpc (of_decide_eq_true hqv4) ?_
      refine And.imp_right (fun kk => z_istore (pc := 718) (ls' := [(6, .int v4.1), (5, .int v1.1), (0, .ref 950), (1, .ref 0), (2, .ref 42), (3, .ref 72), (4, .int i)]) hG [0, 1, 2, 3, 4, 5, 6] (by decide) rfl dL_law_718 kk) ?_
      refine And.imp_right (fun kk => z_aload_n (pc := 720) hG 4 rfl rfl dL_law_720 kk) ?_
      replace h := zbind h
      obtain ⟨v5, hv5, h⟩ := h
      refine And.imp_right (fun kk => z_cvI (A' := A0 + (C / 64 - v4.2.2.2.2 / 64)) (B' := B0 + 2 * (C - v4.2.2.2.2)) (nc := 0) (ns := 0) (rest := []) hG [] zc_X11 DL_42 (tX11_thrown hl0  v4.2 hv5) zy_X11_thrown ⟨w1595, w1596⟩ w1594 dL_law_721 rfl (Nat.le_of_ble_eq_true rfl) (by omega) (by omega) rfl (Nat.le_of_ble_eq_true rfl) rfl kk) ?_
      refine And.imp_right (fun kk => z_iload (pc := 724) hG 1 rfl dL_law_724 kk) ?_
      by_cases hc : v5 = v1.1
      rotate_left
      · replace h := zif_f hc h
        cases h
      replace h := zif_t hc h
      refine And.imp_right (fun kk => z_icmp_eq (pc := 726) (tgt := 731) hG dL_law_726 rfl (fun _ => kk) (fun q => (q hc).elim)) ?_
      refine And.imp_right (fun kk => z_iload (pc := 731) hG 1 rfl dL_law_731 kk) ?_
      refine zbr (c := v1.1 = 0) (fun hc => ?_) (fun hc => ?_) (fun k1 k2 => z_if_ne (pc := 733) (tgt := 748) hG dL_law_733 rfl k2 k1)
      · replace h := zif_t hc h
        refine And.imp_right (fun kk => z_aload_n (pc := 736) hG 5 rfl rfl dL_law_736 kk) ?_
        refine And.imp_right (fun kk => z_iconst (pc := 737) hG kc_0 dL_law_737 kk) ?_
        refine And.imp_right (fun kk => z_lald (pc := 738) hG DL_72 (zin_in (by decide)) dL_law_738 kk) ?_
        refine And.imp_right (fun kk => z_iload (pc := 739) hG 0 rfl dL_law_739 kk) ?_
        refine And.imp_right (fun kk => z_i2l (pc := 741) hG dL_law_741 kk) ?_
        refine And.imp_right (fun kk => z_lcmp (pc := 742) hG dL_law_742 kk) ?_
        by_cases hc : (lg_cmp (v4.2.2.1 72 (0 : Int32).toNatClampNeg) v4.1.toInt64) = 0
        rotate_left
        · replace h := zif_f hc h
          cases h
        replace h := zif_t hc h
        refine And.imp_right (fun kk => z_if_eq (pc := 743) (tgt := 748) hG dL_law_743 rfl (fun _ => kk) (fun q => (q hc).elim)) ?_
        refine And.imp_right (fun kk => z_goto (pc := 748) (tgt := 3017) hG dL_law_748 rfl kk) ?_
        obtain rfl := Option.some.inj h
        refine And.imp_right (fun kk => z_sub (ls' := [(0, .ref 950), (1, .ref 0), (2, .ref 42), (3, .ref 72), (4, .int i)]) [2, 3, 4, 5, 6] rfl kk) ?_
        exact kf
      · replace h := zif_f hc h
        refine And.imp_right (fun kk => z_goto (pc := 748) (tgt := 3017) hG dL_law_748 rfl kk) ?_
        obtain rfl := Option.some.inj h
        refine And.imp_right (fun kk => z_sub (ls' := [(0, .ref 950), (1, .ref 0), (2, .ref 42), (3, .ref 72), (4, .int i)]) [2, 3, 4, 5, 6] rfl kk) ?_
        exact kf
  · replace h := zif_f hc h
    refine And.imp_right (fun kk => z_iconst (pc := 683) hG kc_1 dL_law_683 kk) ?_
    refine And.imp_right (fun kk => z_goto (pc := 684) (tgt := 688) hG dL_law_684 rfl kk) ?_
    refine And.imp_right (fun kk => z_aload_n (pc := 688) hG 3 rfl rfl dL_law_688 kk) ?_
    replace h := zbind h
    obtain ⟨v6, hv6, h⟩ := h
    replace h := zchk_some h
    obtain ⟨hqv6, h⟩ := h
    replace hqv6 := of_decide_eq_true hqv6
    refine And.elim (fun hb kk => ⟨Nat.le_trans hqv6 hb, z_csH (A' := A0 + (C / 64 - v6.2.2.2.2 / 64)) (B' := B0 + 2 * (C - v6.2.2.2.2)) (rest := []) hG hPx [.ref 0, .int (a 1), .int (1 : Int32), .ref 72] (tL_cover hl0 (a 1) (1 : Int32) g hv6) zyH_cover w910 w909 dL_law_689 rfl (Nat.le_of_ble_eq_true rfl) (by have hb : v6.2.2.2.2 ≤ C := hb; omega) (by have hb : v6.2.2.2.2 ≤ C := hb; omega) rfl (Nat.le_of_ble_eq_true rfl) rfl kk⟩) ?_
    refine And.imp_right (fun kk => z_istore (pc := 692) (ls' := [(5, .int v6.1), (0, .ref 950), (1, .ref 0), (2, .ref 42), (3, .ref 72), (4, .int i)]) hG [0, 1, 2, 3, 4, 5] (by decide) rfl dL_law_692 kk) ?_
    refine And.imp_right (fun kk => z_aload_n (pc := 694) hG 3 rfl rfl dL_law_694 kk) ?_
    refine And.imp_right (fun kk => z_aload_n (pc := 695) hG 1 rfl rfl dL_law_695 kk) ?_
    refine And.imp_right (fun kk => z_iload (pc := 696) hG 5 rfl dL_law_696 kk) ?_
    refine And.imp_right (fun kk => z_iconst (pc := 698) hG kc_1 dL_law_698 kk) ?_
    refine And.imp_right (fun kk => z_iadd (pc := 699) hG dL_law_699 kk) ?_
    refine And.imp_right (fun kk => z_scr (pc := 700) hG hS 1 (by decide) rfl dL_law_700 kk) ?_
    refine And.imp_right (fun kk => z_aload_n (pc := 701) hG 1 rfl rfl dL_law_701 kk) ?_
    refine And.imp_right (fun kk => z_iload (pc := 702) hG 5 rfl dL_law_702 kk) ?_
    refine And.imp_right (fun kk => z_iconst (pc := 704) hG kc_2 dL_law_704 kk) ?_
    refine And.imp_right (fun kk => z_iadd (pc := 705) hG dL_law_705 kk) ?_
    refine And.imp_right (fun kk => z_scr (pc := 706) hG hS 2 (by decide) rfl dL_law_706 kk) ?_
    refine zbr (c := (a 2) = 0) (fun hc => ?_) (fun hc => ?_) (fun k1 k2 => z_if_eq (pc := 707) (tgt := 714) hG dL_law_707 rfl k1 k2)
    · replace h := zif_t hc h
      refine And.imp_right (fun kk => z_iconst (pc := 714) hG kc_0 dL_law_714 kk) ?_
      replace h := zbind h
      obtain ⟨v7, hv7, h⟩ := h
      replace h := zchk_some h
      obtain ⟨hqv7, h⟩ := h
      refine And.imp_right (fun kk => z_cvI (A' := A0 + (C / 64 - v6.2.2.2.2 / 64)) (B' := B0 + 2 * (C - v6.2.2.2.2)) (nc := 0) (ns := 0) (rest := []) hG [.int (a 1), .int (0 : Int32)] zc_X11 DL_42 (tX11_cover hl0 (a 1) (0 : Int32) v6.2 hv7) zy_X11_cover ⟨w1933, w1934⟩ w1932 dL_law_715 rfl (Nat.le_of_ble_eq_true rfl) (by omega) (by omega) rfl (Nat.le_of_ble_eq_true rfl) rfl kk) ?_
      refine zpc (of_decide_eq_true hqv7) ?_
      refine And.imp_right (fun kk => z_istore (pc := 718) (ls' := [(6, .int v7.1), (5, .int v6.1), (0, .ref 950), (1, .ref 0), (2, .ref 42), (3, .ref 72), (4, .int i)]) hG [0, 1, 2, 3, 4, 5, 6] (by decide) rfl dL_law_718 kk) ?_
      refine And.imp_right (fun kk => z_aload_n (pc := 720) hG 4 rfl rfl dL_law_720 kk) ?_
      replace h := zbind h
      obtain ⟨v8, hv8, h⟩ := h
      refine And.imp_right (fun kk => z_cvI (A' := A0 + (C / 64 - v7.2.2.2.2 / 64)) (B' := B0 + 2 * (C - v7.2.2.2.2)) (nc := 0) (ns := 0) (rest := []) hG [] zc_X11 DL_42 (tX11_thrown hl0  v7.2 hv8) zy_X11_thrown ⟨w1595, w1596⟩ w1594 dL_law_721 rfl (Nat.le_of_ble_eq_true rfl) (by omega) (by omega) rfl (Nat.le_of_ble_eq_true rfl) rfl kk) ?_
      refine And.imp_right (fun kk => z_iload (pc := 724) hG 1 rfl dL_law_724 kk) ?_
      by_cases hc : v8 = v6.1
      rotate_left
      · replace h := zif_f hc h
        cases h
      replace h := zif_t hc h
      refine And.imp_right (fun kk => z_icmp_eq (pc := 726) (tgt := 731) hG dL_law_726 rfl (fun _ => kk) (fun q => (q hc).elim)) ?_
      refine And.imp_right (fun kk => z_iload (pc := 731) hG 1 rfl dL_law_731 kk) ?_
      refine zbr (c := v6.1 = 0) (fun hc => ?_) (fun hc => ?_) (fun k1 k2 => z_if_ne (pc := 733) (tgt := 748) hG dL_law_733 rfl k2 k1)
      · replace h := zif_t hc h
        refine And.imp_right (fun kk => z_aload_n (pc := 736) hG 5 rfl rfl dL_law_736 kk) ?_
        refine And.imp_right (fun kk => z_iconst (pc := 737) hG kc_0 dL_law_737 kk) ?_
        refine And.imp_right (fun kk => z_lald (pc := 738) hG DL_72 (zin_in (by decide)) dL_law_738 kk) ?_
        refine And.imp_right (fun kk => z_iload (pc := 739) hG 0 rfl dL_law_739 kk) ?_
        refine And.imp_right (fun kk => z_i2l (pc := 741) hG dL_law_741 kk) ?_
        refine And.imp_right (fun kk => z_lcmp (pc := 742) hG dL_law_742 kk) ?_
        by_cases hc : (lg_cmp (v7.2.2.1 72 (0 : Int32).toNatClampNeg) v7.1.toInt64) = 0
        rotate_left
        · replace h := zif_f hc h
          cases h
        replace h := zif_t hc h
        refine And.imp_right (fun kk => z_if_eq (pc := 743) (tgt := 748) hG dL_law_743 rfl (fun _ => kk) (fun q => (q hc).elim)) ?_
        refine And.imp_right (fun kk => z_goto (pc := 748) (tgt := 3017) hG dL_law_748 rfl kk) ?_
        obtain rfl := Option.some.inj h
        refine And.imp_right (fun kk => z_sub (ls' := [(0, .ref 950), (1, .ref 0), (2, .ref 42), (3, .ref 72), (4, .int i)]) [2, 3, 4, 5, 6] rfl kk) ?_
        exact kf
      · replace h := zif_f hc h
        refine And.imp_right (fun kk => z_goto (pc := 748) (tgt := 3017) hG dL_law_748 rfl kk) ?_
        obtain rfl := Option.some.inj h
        refine And.imp_right (fun kk => z_sub (ls' := [(0, .ref 950), (1, .ref 0), (2, .ref 42), (3, .ref 72), (4, .int i)]) [2, 3, 4, 5, 6] rfl kk) ?_
        exact kf
    · replace h := zif_f hc h
      refine And.imp_right (fun kk => z_iconst (pc := 710) hG kc_1 dL_law_710 kk) ?_
      refine And.imp_right (fun kk => z_goto (pc := 711) (tgt := 715) hG dL_law_711 rfl kk) ?_
      replace h := zbind h
      obtain ⟨v9, hv9, h⟩ := h
      replace h := zchk_some h
      obtain ⟨hqv9, h⟩ := h
      refine And.imp_right (fun kk => z_cvI (A' := A0 + (C / 64 - v6.2.2.2.2 / 64)) (B' := B0 + 2 * (C - v6.2.2.2.2)) (nc := 0) (ns := 0) (rest := []) hG [.int (a 1), .int (1 : Int32)] zc_X11 DL_42 (tX11_cover hl0 (a 1) (1 : Int32) v6.2 hv9) zy_X11_cover ⟨w1933, w1934⟩ w1932 dL_law_715 rfl (Nat.le_of_ble_eq_true rfl) (by omega) (by omega) rfl (Nat.le_of_ble_eq_true rfl) rfl kk) ?_
      refine zpc (of_decide_eq_true hqv9) ?_
      refine And.imp_right (fun kk => z_istore (pc := 718) (ls' := [(6, .int v9.1), (5, .int v6.1), (0, .ref 950), (1, .ref 0), (2, .ref 42), (3, .ref 72), (4, .int i)]) hG [0, 1, 2, 3, 4, 5, 6] (by decide) rfl dL_law_718 kk) ?_
      refine And.imp_right (fun kk => z_aload_n (pc := 720) hG 4 rfl rfl dL_law_720 kk) ?_
      replace h := zbind h
      obtain ⟨v10, hv10, h⟩ := h
      refine And.imp_right (fun kk => z_cvI (A' := A0 + (C / 64 - v9.2.2.2.2 / 64)) (B' := B0 + 2 * (C - v9.2.2.2.2)) (nc := 0) (ns := 0) (rest := []) hG [] zc_X11 DL_42 (tX11_thrown hl0  v9.2 hv10) zy_X11_thrown ⟨w1595, w1596⟩ w1594 dL_law_721 rfl (Nat.le_of_ble_eq_true rfl) (by omega) (by omega) rfl (Nat.le_of_ble_eq_true rfl) rfl kk) ?_
      refine And.imp_right (fun kk => z_iload (pc := 724) hG 1 rfl dL_law_724 kk) ?_
      by_cases hc : v10 = v6.1
      rotate_left
      · replace h := zif_f hc h
        cases h
      replace h := zif_t hc h
      refine And.imp_right (fun kk => z_icmp_eq (pc := 726) (tgt := 731) hG dL_law_726 rfl (fun _ => kk) (fun q => (q hc).elim)) ?_
      refine And.imp_right (fun kk => z_iload (pc := 731) hG 1 rfl dL_law_731 kk) ?_
      refine zbr (c := v6.1 = 0) (fun hc => ?_) (fun hc => ?_) (fun k1 k2 => z_if_ne (pc := 733) (tgt := 748) hG dL_law_733 rfl k2 k1)
      · replace h := zif_t hc h
        refine And.imp_right (fun kk => z_aload_n (pc := 736) hG 5 rfl rfl dL_law_736 kk) ?_
        refine And.imp_right (fun kk => z_iconst (pc := 737) hG kc_0 dL_law_737 kk) ?_
        refine And.imp_right (fun kk => z_lald (pc := 738) hG DL_72 (zin_in (by decide)) dL_law_738 kk) ?_
        refine And.imp_right (fun kk => z_iload (pc := 739) hG 0 rfl dL_law_739 kk) ?_
        refine And.imp_right (fun kk => z_i2l (pc := 741) hG dL_law_741 kk) ?_
        refine And.imp_right (fun kk => z_lcmp (pc := 742) hG dL_law_742 kk) ?_
        by_cases hc : (lg_cmp (v9.2.2.1 72 (0 : Int32).toNatClampNeg) v9.1.toInt64) = 0
        rotate_left
        · replace h := zif_f hc h
          cases h
        replace h := zif_t hc h
        refine And.imp_right (fun kk => z_if_eq (pc := 743) (tgt := 748) hG dL_law_743 rfl (fun _ => kk) (fun q => (q hc).elim)) ?_
        refine And.imp_right (fun kk => z_goto (pc := 748) (tgt := 3017) hG dL_law_748 rfl kk) ?_
        obtain rfl := Option.some.inj h
        refine And.imp_right (fun kk => z_sub (ls' := [(0, .ref 950), (1, .ref 0), (2, .ref 42), (3, .ref 72), (4, .int i)]) [2, 3, 4, 5, 6] rfl kk) ?_
        exact kf
      · replace h := zif_f hc h
        refine And.imp_right (fun kk => z_goto (pc := 748) (tgt := 3017) hG dL_law_748 rfl kk) ?_
        obtain rfl := Option.some.inj h
        refine And.imp_right (fun kk => z_sub (ls' := [(0, .ref 950), (1, .ref 0), (2, .ref 42), (3, .ref 72), (4, .int i)]) [2, 3, 4, 5, 6] rfl kk) ?_
        exact kf
noncomputable def nS_9 (a : Nat → Int32) (g : zS) : Option zS :=
  (nL_idle (a 1) g).bind fun v1 => zchk (decide (v1.2.2.2.2 = g.2.2.2)) ((nX11_idle (a 1) v1.2).bind fun v2 => zchk (decide (v2.2.2.2.2 = v1.2.2.2.2)) ((nX11_thrown v2.2).bind fun v3 => if v3 = v1.1 then (if v1.1 = 0 then (if v2.1 = 0 then (if (lg_cmp (v2.2.2.1 72 (0 : Int32).toNatClampNeg) (0 : Int64)) = 0 then (some v2.2) else (none)) else (if (lg_cmp (v2.2.2.1 72 (0 : Int32).toNatClampNeg) (1 : Int64)) = 0 then (some v2.2) else (none))) else (some v2.2)) else (none)))
set_option maxHeartbeats 1000000 in
theorem tS_9 {x : zXx} {i : Int32} {a : Nat → Int32} (hl0 : (zl0 x).flags = flags0) (hG : zG x cL_law 7 RL ret) (hPx : zPx x.2.2.2.2.1) (hS : zScr x i a) {A0 B0 C : Nat} (g : zS) {r : zS} (h : nS_9 a g = some r) (kf : zgr r C ∧ zK x 66 3017 [(0, .ref 950), (1, .ref 0), (2, .ref 42), (3, .ref 72), (4, .int i)] [] zD r (A0 + (C / 64 - r.2.2.2 / 64)) (B0 + 2 * (C - r.2.2.2))) : zgr g C ∧ zK x 66 751 [(0, .ref 950), (1, .ref 0), (2, .ref 42), (3, .ref 72), (4, .int i)] [] zD g (A0 + 1 + (C / 64 - g.2.2.2 / 64)) (B0 + 6 + 2 * (C - g.2.2.2)) := by
  unfold nS_9 at h
  refine And.imp_right (fun kk => z_aload_n (pc := 751) hG 1 rfl rfl dL_law_751 kk) ?_
  refine And.imp_right (fun kk => z_aload_n (pc := 752) hG 0 rfl rfl dL_law_752 kk) ?_
  refine And.imp_right (fun kk => z_iload (pc := 753) hG 4 rfl dL_law_753 kk) ?_
  refine And.imp_right (fun kk => z_iconst (pc := 755) hG kc_1 dL_law_755 kk) ?_
  refine And.imp_right (fun kk => z_iadd (pc := 756) hG dL_law_756 kk) ?_
  refine And.imp_right (fun kk => z_scr (pc := 757) hG hS 1 (by decide) rfl dL_law_757 kk) ?_
  refine And.imp_right (fun kk => z_aload_n (pc := 758) hG 3 rfl rfl dL_law_758 kk) ?_
  replace h := zbind h
  obtain ⟨v1, hv1, h⟩ := h
  replace h := zchk_some h
  obtain ⟨hqv1, h⟩ := h
  refine And.imp_right (fun kk => z_csH (A' := A0 + (C / 64 - g.2.2.2 / 64)) (B' := B0 + 2 * (C - g.2.2.2)) (rest := []) hG hPx [.ref 0, .int (a 1), .ref 72] (tL_idle hl0 (a 1) g hv1) zyH_idle w940 w939 dL_law_759 rfl (Nat.le_of_ble_eq_true rfl) (by omega) (by omega) rfl (Nat.le_of_ble_eq_true rfl) rfl kk) ?_
  refine zpc (of_decide_eq_true hqv1) ?_
  refine And.imp_right (fun kk => z_istore (pc := 762) (ls' := [(5, .int v1.1), (0, .ref 950), (1, .ref 0), (2, .ref 42), (3, .ref 72), (4, .int i)]) hG [0, 1, 2, 3, 4, 5] (by decide) rfl dL_law_762 kk) ?_
  refine And.imp_right (fun kk => z_aload_n (pc := 764) hG 3 rfl rfl dL_law_764 kk) ?_
  refine And.imp_right (fun kk => z_aload_n (pc := 765) hG 1 rfl rfl dL_law_765 kk) ?_
  refine And.imp_right (fun kk => z_iload (pc := 766) hG 5 rfl dL_law_766 kk) ?_
  refine And.imp_right (fun kk => z_iconst (pc := 768) hG kc_1 dL_law_768 kk) ?_
  refine And.imp_right (fun kk => z_iadd (pc := 769) hG dL_law_769 kk) ?_
  refine And.imp_right (fun kk => z_scr (pc := 770) hG hS 1 (by decide) rfl dL_law_770 kk) ?_
  replace h := zbind h
  obtain ⟨v2, hv2, h⟩ := h
  replace h := zchk_some h
  obtain ⟨hqv2, h⟩ := h
  refine And.imp_right (fun kk => z_cvI (A' := A0 + (C / 64 - v1.2.2.2.2 / 64)) (B' := B0 + 2 * (C - v1.2.2.2.2)) (nc := 0) (ns := 0) (rest := []) hG [.int (a 1)] zc_X11 DL_42 (tX11_idle hl0 (a 1) v1.2 hv2) zy_X11_idle ⟨w1768, w1769⟩ w1767 dL_law_771 rfl (Nat.le_of_ble_eq_true rfl) (by omega) (by omega) rfl (Nat.le_of_ble_eq_true rfl) rfl kk) ?_
  refine zpc (of_decide_eq_true hqv2) ?_
  refine And.imp_right (fun kk => z_istore (pc := 774) (ls' := [(6, .int v2.1), (5, .int v1.1), (0, .ref 950), (1, .ref 0), (2, .ref 42), (3, .ref 72), (4, .int i)]) hG [0, 1, 2, 3, 4, 5, 6] (by decide) rfl dL_law_774 kk) ?_
  refine And.imp_right (fun kk => z_aload_n (pc := 776) hG 4 rfl rfl dL_law_776 kk) ?_
  replace h := zbind h
  obtain ⟨v3, hv3, h⟩ := h
  refine And.imp_right (fun kk => z_cvI (A' := A0 + (C / 64 - v2.2.2.2.2 / 64)) (B' := B0 + 2 * (C - v2.2.2.2.2)) (nc := 0) (ns := 0) (rest := []) hG [] zc_X11 DL_42 (tX11_thrown hl0  v2.2 hv3) zy_X11_thrown ⟨w1595, w1596⟩ w1594 dL_law_777 rfl (Nat.le_of_ble_eq_true rfl) (by omega) (by omega) rfl (Nat.le_of_ble_eq_true rfl) rfl kk) ?_
  refine And.imp_right (fun kk => z_iload (pc := 780) hG 1 rfl dL_law_780 kk) ?_
  by_cases hc : v3 = v1.1
  rotate_left
  · replace h := zif_f hc h
    cases h
  replace h := zif_t hc h
  refine And.imp_right (fun kk => z_icmp_eq (pc := 782) (tgt := 787) hG dL_law_782 rfl (fun _ => kk) (fun q => (q hc).elim)) ?_
  refine And.imp_right (fun kk => z_iload (pc := 787) hG 1 rfl dL_law_787 kk) ?_
  refine zbr (c := v1.1 = 0) (fun hc => ?_) (fun hc => ?_) (fun k1 k2 => z_if_ne (pc := 789) (tgt := 811) hG dL_law_789 rfl k2 k1)
  · replace h := zif_t hc h
    refine And.imp_right (fun kk => z_aload_n (pc := 792) hG 5 rfl rfl dL_law_792 kk) ?_
    refine And.imp_right (fun kk => z_iconst (pc := 793) hG kc_0 dL_law_793 kk) ?_
    refine And.imp_right (fun kk => z_lald (pc := 794) hG DL_72 (zin_in (by decide)) dL_law_794 kk) ?_
    refine And.imp_right (fun kk => z_iload (pc := 795) hG 0 rfl dL_law_795 kk) ?_
    refine zbr (c := v2.1 = 0) (fun hc => ?_) (fun hc => ?_) (fun k1 k2 => z_if_eq (pc := 797) (tgt := 804) hG dL_law_797 rfl k1 k2)
    · replace h := zif_t hc h
      refine And.imp_right (fun kk => z_lconst (pc := 804) hG kl_0 dL_law_804 kk) ?_
      refine And.imp_right (fun kk => z_lcmp (pc := 805) hG dL_law_805 kk) ?_
      by_cases hc : (lg_cmp (v2.2.2.1 72 (0 : Int32).toNatClampNeg) (0 : Int64)) = 0
      rotate_left
      · replace h := zif_f hc h
        cases h
      replace h := zif_t hc h
      refine And.imp_right (fun kk => z_if_eq (pc := 806) (tgt := 811) hG dL_law_806 rfl (fun _ => kk) (fun q => (q hc).elim)) ?_
      refine And.imp_right (fun kk => z_goto (pc := 811) (tgt := 3017) hG dL_law_811 rfl kk) ?_
      obtain rfl := Option.some.inj h
      refine And.imp_right (fun kk => z_sub (ls' := [(0, .ref 950), (1, .ref 0), (2, .ref 42), (3, .ref 72), (4, .int i)]) [2, 3, 4, 5, 6] rfl kk) ?_
      exact kf
    · replace h := zif_f hc h
      refine And.imp_right (fun kk => z_lconst (pc := 800) hG kl_1 dL_law_800 kk) ?_
      refine And.imp_right (fun kk => z_goto (pc := 801) (tgt := 805) hG dL_law_801 rfl kk) ?_
      refine And.imp_right (fun kk => z_lcmp (pc := 805) hG dL_law_805 kk) ?_
      by_cases hc : (lg_cmp (v2.2.2.1 72 (0 : Int32).toNatClampNeg) (1 : Int64)) = 0
      rotate_left
      · replace h := zif_f hc h
        cases h
      replace h := zif_t hc h
      refine And.imp_right (fun kk => z_if_eq (pc := 806) (tgt := 811) hG dL_law_806 rfl (fun _ => kk) (fun q => (q hc).elim)) ?_
      refine And.imp_right (fun kk => z_goto (pc := 811) (tgt := 3017) hG dL_law_811 rfl kk) ?_
      obtain rfl := Option.some.inj h
      refine And.imp_right (fun kk => z_sub (ls' := [(0, .ref 950), (1, .ref 0), (2, .ref 42), (3, .ref 72), (4, .int i)]) [2, 3, 4, 5, 6] rfl kk) ?_
      exact kf
  · replace h := zif_f hc h
    refine And.imp_right (fun kk => z_goto (pc := 811) (tgt := 3017) hG dL_law_811 rfl kk) ?_
    obtain rfl := Option.some.inj h
    refine And.imp_right (fun kk => z_sub (ls' := [(0, .ref 950), (1, .ref 0), (2, .ref 42), (3, .ref 72), (4, .int i)]) [2, 3, 4, 5, 6] rfl kk) ?_
    exact kf
noncomputable def nS_10 (a : Nat → Int32) (g : zS) : Option zS :=
  (nX10_boxes g).bind fun v1 => zchk (decide (g.2.2.2 ≤ v1.2.2.2.2)) ((nX11_boxes v1.2).bind fun v2 => zchk (decide (v2.2.2.2.2 = v1.2.2.2.2)) (if v1.1 = v2.1 then (some v2.2) else (none)))
set_option maxHeartbeats 1000000 in
theorem tS_10 {x : zXx} {i : Int32} {a : Nat → Int32} (hl0 : (zl0 x).flags = flags0) (hG : zG x cL_law 7 RL ret) (hPx : zPx x.2.2.2.2.1) (hS : zScr x i a) {A0 B0 C : Nat} (g : zS) {r : zS} (h : nS_10 a g = some r) (kf : zgr r C ∧ zK x 66 3017 [(0, .ref 950), (1, .ref 0), (2, .ref 42), (3, .ref 72), (4, .int i)] [] zD r (A0 + (C / 64 - r.2.2.2 / 64)) (B0 + 2 * (C - r.2.2.2))) : zgr g C ∧ zK x 66 814 [(0, .ref 950), (1, .ref 0), (2, .ref 42), (3, .ref 72), (4, .int i)] [] zD g (A0 + 0 + (C / 64 - g.2.2.2 / 64)) (B0 + 0 + 2 * (C - g.2.2.2)) := by
  unfold nS_10 at h
  refine And.imp_right (fun kk => z_aload_n (pc := 814) hG 1 rfl rfl dL_law_814 kk) ?_
  replace h := zbind h
  obtain ⟨v1, hv1, h⟩ := h
  replace h := zchk_some h
  obtain ⟨hqv1, h⟩ := h
  replace hqv1 := of_decide_eq_true hqv1
  refine And.elim (fun hb kk => ⟨Nat.le_trans hqv1 hb, z_cvI (A' := A0 + (C / 64 - v1.2.2.2.2 / 64)) (B' := B0 + 2 * (C - v1.2.2.2.2)) (nc := 0 + (v1.2.2.2.2 / 64 - g.2.2.2 / 64)) (ns := 0 + 2 * (v1.2.2.2.2 - g.2.2.2)) (rest := []) hG [] zc_X10 DL_0 (tX10_boxes hl0  g hv1) zy_X10_boxes ⟨w340, w341⟩ w339 dL_law_815 rfl (Nat.le_of_ble_eq_true rfl) (by have hb : v1.2.2.2.2 ≤ C := hb; omega) (by have hb : v1.2.2.2.2 ≤ C := hb; omega) rfl (Nat.le_of_ble_eq_true rfl) rfl kk⟩) ?_
  refine And.imp_right (fun kk => z_aload_n (pc := 818) hG 2 rfl rfl dL_law_818 kk) ?_
  replace h := zbind h
  obtain ⟨v2, hv2, h⟩ := h
  replace h := zchk_some h
  obtain ⟨hqv2, h⟩ := h
  refine And.imp_right (fun kk => z_cvI (A' := A0 + (C / 64 - v1.2.2.2.2 / 64)) (B' := B0 + 2 * (C - v1.2.2.2.2)) (nc := 0) (ns := 0) (rest := [.int v1.1]) hG [] zc_X11 DL_42 (tX11_boxes hl0  v1.2 hv2) zy_X11_boxes ⟨w1772, w1773⟩ w1771 dL_law_819 rfl (Nat.le_of_ble_eq_true rfl) (by omega) (by omega) rfl (Nat.le_of_ble_eq_true rfl) rfl kk) ?_
  refine zpc (of_decide_eq_true hqv2) ?_
  by_cases hc : v1.1 = v2.1
  rotate_left
  · replace h := zif_f hc h
    cases h
  replace h := zif_t hc h
  refine And.imp_right (fun kk => z_icmp_eq (pc := 822) (tgt := 3017) hG dL_law_822 rfl (fun _ => kk) (fun q => (q hc).elim)) ?_
  obtain rfl := Option.some.inj h
  exact kf
noncomputable def nS_11 (a : Nat → Int32) (g : zS) : Option zS :=
  (nL_box (a 1) (a 2) g).bind fun v1 => zchk (decide (g.2.2.2 ≤ v1.2.2.2.2)) ((nX11_box (a 1) (a 2) v1.2).bind fun v2 => zchk (decide (v2.2.2.2.2 = v1.2.2.2.2)) ((nX11_thrown v2.2).bind fun v3 => if v3 = v1.1 then (if v1.1 = 0 then (if (lg_cmp (v2.2.2.1 72 (0 : Int32).toNatClampNeg) v2.1.toInt64) = 0 then (some v2.2) else (none)) else (some v2.2)) else (none)))
set_option maxHeartbeats 1000000 in
theorem tS_11 {x : zXx} {i : Int32} {a : Nat → Int32} (hl0 : (zl0 x).flags = flags0) (hG : zG x cL_law 7 RL ret) (hPx : zPx x.2.2.2.2.1) (hS : zScr x i a) {A0 B0 C : Nat} (g : zS) {r : zS} (h : nS_11 a g = some r) (kf : zgr r C ∧ zK x 66 3017 [(0, .ref 950), (1, .ref 0), (2, .ref 42), (3, .ref 72), (4, .int i)] [] zD r (A0 + (C / 64 - r.2.2.2 / 64)) (B0 + 2 * (C - r.2.2.2))) : zgr g C ∧ zK x 66 827 [(0, .ref 950), (1, .ref 0), (2, .ref 42), (3, .ref 72), (4, .int i)] [] zD g (A0 + 2 + (C / 64 - g.2.2.2 / 64)) (B0 + 12 + 2 * (C - g.2.2.2)) := by
  unfold nS_11 at h
  refine And.imp_right (fun kk => z_aload_n (pc := 827) hG 1 rfl rfl dL_law_827 kk) ?_
  refine And.imp_right (fun kk => z_aload_n (pc := 828) hG 0 rfl rfl dL_law_828 kk) ?_
  refine And.imp_right (fun kk => z_iload (pc := 829) hG 4 rfl dL_law_829 kk) ?_
  refine And.imp_right (fun kk => z_iconst (pc := 831) hG kc_1 dL_law_831 kk) ?_
  refine And.imp_right (fun kk => z_iadd (pc := 832) hG dL_law_832 kk) ?_
  refine And.imp_right (fun kk => z_scr (pc := 833) hG hS 1 (by decide) rfl dL_law_833 kk) ?_
  refine And.imp_right (fun kk => z_aload_n (pc := 834) hG 0 rfl rfl dL_law_834 kk) ?_
  refine And.imp_right (fun kk => z_iload (pc := 835) hG 4 rfl dL_law_835 kk) ?_
  refine And.imp_right (fun kk => z_iconst (pc := 837) hG kc_2 dL_law_837 kk) ?_
  refine And.imp_right (fun kk => z_iadd (pc := 838) hG dL_law_838 kk) ?_
  refine And.imp_right (fun kk => z_scr (pc := 839) hG hS 2 (by decide) rfl dL_law_839 kk) ?_
  refine And.imp_right (fun kk => z_aload_n (pc := 840) hG 3 rfl rfl dL_law_840 kk) ?_
  replace h := zbind h
  obtain ⟨v1, hv1, h⟩ := h
  replace h := zchk_some h
  obtain ⟨hqv1, h⟩ := h
  replace hqv1 := of_decide_eq_true hqv1
  refine And.elim (fun hb kk => ⟨Nat.le_trans hqv1 hb, z_csH (A' := A0 + (C / 64 - v1.2.2.2.2 / 64)) (B' := B0 + 2 * (C - v1.2.2.2.2)) (rest := []) hG hPx [.ref 0, .int (a 1), .int (a 2), .ref 72] (tL_box hl0 (a 1) (a 2) g hv1) zyH_box w951 w950 dL_law_841 rfl (Nat.le_of_ble_eq_true rfl) (by have hb : v1.2.2.2.2 ≤ C := hb; omega) (by have hb : v1.2.2.2.2 ≤ C := hb; omega) rfl (Nat.le_of_ble_eq_true rfl) rfl kk⟩) ?_
  refine And.imp_right (fun kk => z_istore (pc := 844) (ls' := [(5, .int v1.1), (0, .ref 950), (1, .ref 0), (2, .ref 42), (3, .ref 72), (4, .int i)]) hG [0, 1, 2, 3, 4, 5] (by decide) rfl dL_law_844 kk) ?_
  refine And.imp_right (fun kk => z_aload_n (pc := 846) hG 3 rfl rfl dL_law_846 kk) ?_
  refine And.imp_right (fun kk => z_aload_n (pc := 847) hG 1 rfl rfl dL_law_847 kk) ?_
  refine And.imp_right (fun kk => z_iload (pc := 848) hG 5 rfl dL_law_848 kk) ?_
  refine And.imp_right (fun kk => z_iconst (pc := 850) hG kc_1 dL_law_850 kk) ?_
  refine And.imp_right (fun kk => z_iadd (pc := 851) hG dL_law_851 kk) ?_
  refine And.imp_right (fun kk => z_scr (pc := 852) hG hS 1 (by decide) rfl dL_law_852 kk) ?_
  refine And.imp_right (fun kk => z_aload_n (pc := 853) hG 1 rfl rfl dL_law_853 kk) ?_
  refine And.imp_right (fun kk => z_iload (pc := 854) hG 5 rfl dL_law_854 kk) ?_
  refine And.imp_right (fun kk => z_iconst (pc := 856) hG kc_2 dL_law_856 kk) ?_
  refine And.imp_right (fun kk => z_iadd (pc := 857) hG dL_law_857 kk) ?_
  refine And.imp_right (fun kk => z_scr (pc := 858) hG hS 2 (by decide) rfl dL_law_858 kk) ?_
  replace h := zbind h
  obtain ⟨v2, hv2, h⟩ := h
  replace h := zchk_some h
  obtain ⟨hqv2, h⟩ := h
  refine And.imp_right (fun kk => z_cvI (A' := A0 + (C / 64 - v1.2.2.2.2 / 64)) (B' := B0 + 2 * (C - v1.2.2.2.2)) (nc := 0) (ns := 0) (rest := []) hG [.int (a 1), .int (a 2)] zc_X11 DL_42 (tX11_box hl0 (a 1) (a 2) v1.2 hv2) zy_X11_box ⟨w1776, w1777⟩ w1775 dL_law_859 rfl (Nat.le_of_ble_eq_true rfl) (by omega) (by omega) rfl (Nat.le_of_ble_eq_true rfl) rfl kk) ?_
  refine zpc (of_decide_eq_true hqv2) ?_
  refine And.imp_right (fun kk => z_istore (pc := 862) (ls' := [(6, .int v2.1), (5, .int v1.1), (0, .ref 950), (1, .ref 0), (2, .ref 42), (3, .ref 72), (4, .int i)]) hG [0, 1, 2, 3, 4, 5, 6] (by decide) rfl dL_law_862 kk) ?_
  refine And.imp_right (fun kk => z_aload_n (pc := 864) hG 4 rfl rfl dL_law_864 kk) ?_
  replace h := zbind h
  obtain ⟨v3, hv3, h⟩ := h
  refine And.imp_right (fun kk => z_cvI (A' := A0 + (C / 64 - v2.2.2.2.2 / 64)) (B' := B0 + 2 * (C - v2.2.2.2.2)) (nc := 0) (ns := 0) (rest := []) hG [] zc_X11 DL_42 (tX11_thrown hl0  v2.2 hv3) zy_X11_thrown ⟨w1595, w1596⟩ w1594 dL_law_865 rfl (Nat.le_of_ble_eq_true rfl) (by omega) (by omega) rfl (Nat.le_of_ble_eq_true rfl) rfl kk) ?_
  refine And.imp_right (fun kk => z_iload (pc := 868) hG 1 rfl dL_law_868 kk) ?_
  by_cases hc : v3 = v1.1
  rotate_left
  · replace h := zif_f hc h
    cases h
  replace h := zif_t hc h
  refine And.imp_right (fun kk => z_icmp_eq (pc := 870) (tgt := 875) hG dL_law_870 rfl (fun _ => kk) (fun q => (q hc).elim)) ?_
  refine And.imp_right (fun kk => z_iload (pc := 875) hG 1 rfl dL_law_875 kk) ?_
  refine zbr (c := v1.1 = 0) (fun hc => ?_) (fun hc => ?_) (fun k1 k2 => z_if_ne (pc := 877) (tgt := 892) hG dL_law_877 rfl k2 k1)
  · replace h := zif_t hc h
    refine And.imp_right (fun kk => z_aload_n (pc := 880) hG 5 rfl rfl dL_law_880 kk) ?_
    refine And.imp_right (fun kk => z_iconst (pc := 881) hG kc_0 dL_law_881 kk) ?_
    refine And.imp_right (fun kk => z_lald (pc := 882) hG DL_72 (zin_in (by decide)) dL_law_882 kk) ?_
    refine And.imp_right (fun kk => z_iload (pc := 883) hG 0 rfl dL_law_883 kk) ?_
    refine And.imp_right (fun kk => z_i2l (pc := 885) hG dL_law_885 kk) ?_
    refine And.imp_right (fun kk => z_lcmp (pc := 886) hG dL_law_886 kk) ?_
    by_cases hc : (lg_cmp (v2.2.2.1 72 (0 : Int32).toNatClampNeg) v2.1.toInt64) = 0
    rotate_left
    · replace h := zif_f hc h
      cases h
    replace h := zif_t hc h
    refine And.imp_right (fun kk => z_if_eq (pc := 887) (tgt := 892) hG dL_law_887 rfl (fun _ => kk) (fun q => (q hc).elim)) ?_
    refine And.imp_right (fun kk => z_goto (pc := 892) (tgt := 3017) hG dL_law_892 rfl kk) ?_
    obtain rfl := Option.some.inj h
    refine And.imp_right (fun kk => z_sub (ls' := [(0, .ref 950), (1, .ref 0), (2, .ref 42), (3, .ref 72), (4, .int i)]) [2, 3, 4, 5, 6] rfl kk) ?_
    exact kf
  · replace h := zif_f hc h
    refine And.imp_right (fun kk => z_goto (pc := 892) (tgt := 3017) hG dL_law_892 rfl kk) ?_
    obtain rfl := Option.some.inj h
    refine And.imp_right (fun kk => z_sub (ls' := [(0, .ref 950), (1, .ref 0), (2, .ref 42), (3, .ref 72), (4, .int i)]) [2, 3, 4, 5, 6] rfl kk) ?_
    exact kf
noncomputable def nS_12 (a : Nat → Int32) (g : zS) : Option zS :=
  (nX10_passing g).bind fun v1 => (nX11_passing g).bind fun v2 => zchk (decide (v2.2.2.2.2 = g.2.2.2)) (if v1 = v2.1 then (some v2.2) else (none))
set_option maxHeartbeats 1000000 in
theorem tS_12 {x : zXx} {i : Int32} {a : Nat → Int32} (hl0 : (zl0 x).flags = flags0) (hG : zG x cL_law 7 RL ret) (hPx : zPx x.2.2.2.2.1) (hS : zScr x i a) {A0 B0 C : Nat} (g : zS) {r : zS} (h : nS_12 a g = some r) (kf : zgr r C ∧ zK x 66 3017 [(0, .ref 950), (1, .ref 0), (2, .ref 42), (3, .ref 72), (4, .int i)] [] zD r (A0 + (C / 64 - r.2.2.2 / 64)) (B0 + 2 * (C - r.2.2.2))) : zgr g C ∧ zK x 66 895 [(0, .ref 950), (1, .ref 0), (2, .ref 42), (3, .ref 72), (4, .int i)] [] zD g (A0 + 0 + (C / 64 - g.2.2.2 / 64)) (B0 + 0 + 2 * (C - g.2.2.2)) := by
  unfold nS_12 at h
  refine And.imp_right (fun kk => z_aload_n (pc := 895) hG 1 rfl rfl dL_law_895 kk) ?_
  replace h := zbind h
  obtain ⟨v1, hv1, h⟩ := h
  refine And.imp_right (fun kk => z_cvI (A' := A0 + (C / 64 - g.2.2.2 / 64)) (B' := B0 + 2 * (C - g.2.2.2)) (nc := 0) (ns := 0) (rest := []) hG [] zc_X10 DL_0 (tX10_passing hl0  g hv1) zy_X10_passing ⟨w412, w413⟩ w411 dL_law_896 rfl (Nat.le_of_ble_eq_true rfl) (by omega) (by omega) rfl (Nat.le_of_ble_eq_true rfl) rfl kk) ?_
  refine And.imp_right (fun kk => z_aload_n (pc := 899) hG 2 rfl rfl dL_law_899 kk) ?_
  replace h := zbind h
  obtain ⟨v2, hv2, h⟩ := h
  replace h := zchk_some h
  obtain ⟨hqv2, h⟩ := h
  refine And.imp_right (fun kk => z_cvI (A' := A0 + (C / 64 - g.2.2.2 / 64)) (B' := B0 + 2 * (C - g.2.2.2)) (nc := 0) (ns := 0) (rest := [.int v1]) hG [] zc_X11 DL_42 (tX11_passing hl0  g hv2) zy_X11_passing ⟨w1784, w1785⟩ w1783 dL_law_900 rfl (Nat.le_of_ble_eq_true rfl) (by omega) (by omega) rfl (Nat.le_of_ble_eq_true rfl) rfl kk) ?_
  refine zpc (of_decide_eq_true hqv2) ?_
  by_cases hc : v1 = v2.1
  rotate_left
  · replace h := zif_f hc h
    cases h
  replace h := zif_t hc h
  refine And.imp_right (fun kk => z_icmp_eq (pc := 903) (tgt := 3017) hG dL_law_903 rfl (fun _ => kk) (fun q => (q hc).elim)) ?_
  obtain rfl := Option.some.inj h
  exact kf
noncomputable def nS_13 (a : Nat → Int32) (g : zS) : Option zS :=
  (nL_tried (a 1) g).bind fun v1 => zchk (decide (v1.2.2.2.2 = g.2.2.2)) ((nX11_tried (a 1) v1.2).bind fun v2 => zchk (decide (v2.2.2.2.2 = v1.2.2.2.2)) ((nX11_thrown v2.2).bind fun v3 => if v3 = v1.1 then (if v1.1 = 0 then (if (lg_cmp (v2.2.2.1 72 (0 : Int32).toNatClampNeg) v2.1.toInt64) = 0 then (some v2.2) else (none)) else (some v2.2)) else (none)))
set_option maxHeartbeats 1000000 in
theorem tS_13 {x : zXx} {i : Int32} {a : Nat → Int32} (hl0 : (zl0 x).flags = flags0) (hG : zG x cL_law 7 RL ret) (hPx : zPx x.2.2.2.2.1) (hS : zScr x i a) {A0 B0 C : Nat} (g : zS) {r : zS} (h : nS_13 a g = some r) (kf : zgr r C ∧ zK x 66 3017 [(0, .ref 950), (1, .ref 0), (2, .ref 42), (3, .ref 72), (4, .int i)] [] zD r (A0 + (C / 64 - r.2.2.2 / 64)) (B0 + 2 * (C - r.2.2.2))) : zgr g C ∧ zK x 66 908 [(0, .ref 950), (1, .ref 0), (2, .ref 42), (3, .ref 72), (4, .int i)] [] zD g (A0 + 1 + (C / 64 - g.2.2.2 / 64)) (B0 + 6 + 2 * (C - g.2.2.2)) := by
  unfold nS_13 at h
  refine And.imp_right (fun kk => z_aload_n (pc := 908) hG 1 rfl rfl dL_law_908 kk) ?_
  refine And.imp_right (fun kk => z_aload_n (pc := 909) hG 0 rfl rfl dL_law_909 kk) ?_
  refine And.imp_right (fun kk => z_iload (pc := 910) hG 4 rfl dL_law_910 kk) ?_
  refine And.imp_right (fun kk => z_iconst (pc := 912) hG kc_1 dL_law_912 kk) ?_
  refine And.imp_right (fun kk => z_iadd (pc := 913) hG dL_law_913 kk) ?_
  refine And.imp_right (fun kk => z_scr (pc := 914) hG hS 1 (by decide) rfl dL_law_914 kk) ?_
  refine And.imp_right (fun kk => z_aload_n (pc := 915) hG 3 rfl rfl dL_law_915 kk) ?_
  replace h := zbind h
  obtain ⟨v1, hv1, h⟩ := h
  replace h := zchk_some h
  obtain ⟨hqv1, h⟩ := h
  refine And.imp_right (fun kk => z_csH (A' := A0 + (C / 64 - g.2.2.2 / 64)) (B' := B0 + 2 * (C - g.2.2.2)) (rest := []) hG hPx [.ref 0, .int (a 1), .ref 72] (tL_tried hl0 (a 1) g hv1) zyH_tried w964 w963 dL_law_916 rfl (Nat.le_of_ble_eq_true rfl) (by omega) (by omega) rfl (Nat.le_of_ble_eq_true rfl) rfl kk) ?_
  refine zpc (of_decide_eq_true hqv1) ?_
  refine And.imp_right (fun kk => z_istore (pc := 919) (ls' := [(5, .int v1.1), (0, .ref 950), (1, .ref 0), (2, .ref 42), (3, .ref 72), (4, .int i)]) hG [0, 1, 2, 3, 4, 5] (by decide) rfl dL_law_919 kk) ?_
  refine And.imp_right (fun kk => z_aload_n (pc := 921) hG 3 rfl rfl dL_law_921 kk) ?_
  refine And.imp_right (fun kk => z_aload_n (pc := 922) hG 1 rfl rfl dL_law_922 kk) ?_
  refine And.imp_right (fun kk => z_iload (pc := 923) hG 5 rfl dL_law_923 kk) ?_
  refine And.imp_right (fun kk => z_iconst (pc := 925) hG kc_1 dL_law_925 kk) ?_
  refine And.imp_right (fun kk => z_iadd (pc := 926) hG dL_law_926 kk) ?_
  refine And.imp_right (fun kk => z_scr (pc := 927) hG hS 1 (by decide) rfl dL_law_927 kk) ?_
  replace h := zbind h
  obtain ⟨v2, hv2, h⟩ := h
  replace h := zchk_some h
  obtain ⟨hqv2, h⟩ := h
  refine And.imp_right (fun kk => z_cvI (A' := A0 + (C / 64 - v1.2.2.2.2 / 64)) (B' := B0 + 2 * (C - v1.2.2.2.2)) (nc := 0) (ns := 0) (rest := []) hG [.int (a 1)] zc_X11 DL_42 (tX11_tried hl0 (a 1) v1.2 hv2) zy_X11_tried ⟨w1792, w1793⟩ w1791 dL_law_928 rfl (Nat.le_of_ble_eq_true rfl) (by omega) (by omega) rfl (Nat.le_of_ble_eq_true rfl) rfl kk) ?_
  refine zpc (of_decide_eq_true hqv2) ?_
  refine And.imp_right (fun kk => z_istore (pc := 931) (ls' := [(6, .int v2.1), (5, .int v1.1), (0, .ref 950), (1, .ref 0), (2, .ref 42), (3, .ref 72), (4, .int i)]) hG [0, 1, 2, 3, 4, 5, 6] (by decide) rfl dL_law_931 kk) ?_
  refine And.imp_right (fun kk => z_aload_n (pc := 933) hG 4 rfl rfl dL_law_933 kk) ?_
  replace h := zbind h
  obtain ⟨v3, hv3, h⟩ := h
  refine And.imp_right (fun kk => z_cvI (A' := A0 + (C / 64 - v2.2.2.2.2 / 64)) (B' := B0 + 2 * (C - v2.2.2.2.2)) (nc := 0) (ns := 0) (rest := []) hG [] zc_X11 DL_42 (tX11_thrown hl0  v2.2 hv3) zy_X11_thrown ⟨w1595, w1596⟩ w1594 dL_law_934 rfl (Nat.le_of_ble_eq_true rfl) (by omega) (by omega) rfl (Nat.le_of_ble_eq_true rfl) rfl kk) ?_
  refine And.imp_right (fun kk => z_iload (pc := 937) hG 1 rfl dL_law_937 kk) ?_
  by_cases hc : v3 = v1.1
  rotate_left
  · replace h := zif_f hc h
    cases h
  replace h := zif_t hc h
  refine And.imp_right (fun kk => z_icmp_eq (pc := 939) (tgt := 944) hG dL_law_939 rfl (fun _ => kk) (fun q => (q hc).elim)) ?_
  refine And.imp_right (fun kk => z_iload (pc := 944) hG 1 rfl dL_law_944 kk) ?_
  refine zbr (c := v1.1 = 0) (fun hc => ?_) (fun hc => ?_) (fun k1 k2 => z_if_ne (pc := 946) (tgt := 961) hG dL_law_946 rfl k2 k1)
  · replace h := zif_t hc h
    refine And.imp_right (fun kk => z_aload_n (pc := 949) hG 5 rfl rfl dL_law_949 kk) ?_
    refine And.imp_right (fun kk => z_iconst (pc := 950) hG kc_0 dL_law_950 kk) ?_
    refine And.imp_right (fun kk => z_lald (pc := 951) hG DL_72 (zin_in (by decide)) dL_law_951 kk) ?_
    refine And.imp_right (fun kk => z_iload (pc := 952) hG 0 rfl dL_law_952 kk) ?_
    refine And.imp_right (fun kk => z_i2l (pc := 954) hG dL_law_954 kk) ?_
    refine And.imp_right (fun kk => z_lcmp (pc := 955) hG dL_law_955 kk) ?_
    by_cases hc : (lg_cmp (v2.2.2.1 72 (0 : Int32).toNatClampNeg) v2.1.toInt64) = 0
    rotate_left
    · replace h := zif_f hc h
      cases h
    replace h := zif_t hc h
    refine And.imp_right (fun kk => z_if_eq (pc := 956) (tgt := 961) hG dL_law_956 rfl (fun _ => kk) (fun q => (q hc).elim)) ?_
    refine And.imp_right (fun kk => z_goto (pc := 961) (tgt := 3017) hG dL_law_961 rfl kk) ?_
    obtain rfl := Option.some.inj h
    refine And.imp_right (fun kk => z_sub (ls' := [(0, .ref 950), (1, .ref 0), (2, .ref 42), (3, .ref 72), (4, .int i)]) [2, 3, 4, 5, 6] rfl kk) ?_
    exact kf
  · replace h := zif_f hc h
    refine And.imp_right (fun kk => z_goto (pc := 961) (tgt := 3017) hG dL_law_961 rfl kk) ?_
    obtain rfl := Option.some.inj h
    refine And.imp_right (fun kk => z_sub (ls' := [(0, .ref 950), (1, .ref 0), (2, .ref 42), (3, .ref 72), (4, .int i)]) [2, 3, 4, 5, 6] rfl kk) ?_
    exact kf
noncomputable def nS_14 (a : Nat → Int32) (g : zS) : Option zS :=
  (nL_answer (a 1) (a 2) g).bind fun v1 => zchk (decide (v1.2.2.2.2 = g.2.2.2)) ((nX11_answer (a 1) (a 2) v1.2).bind fun v2 => zchk (decide (v2.2.2.2.2 = v1.2.2.2.2)) ((nX11_thrown v2.2).bind fun v3 => if v3 = v1.1 then (if v1.1 = 0 then (if (lg_cmp (v2.2.2.1 72 (0 : Int32).toNatClampNeg) v2.1.toInt64) = 0 then (some v2.2) else (none)) else (some v2.2)) else (none)))
set_option maxHeartbeats 1000000 in
theorem tS_14 {x : zXx} {i : Int32} {a : Nat → Int32} (hl0 : (zl0 x).flags = flags0) (hG : zG x cL_law 7 RL ret) (hPx : zPx x.2.2.2.2.1) (hS : zScr x i a) {A0 B0 C : Nat} (g : zS) {r : zS} (h : nS_14 a g = some r) (kf : zgr r C ∧ zK x 66 3017 [(0, .ref 950), (1, .ref 0), (2, .ref 42), (3, .ref 72), (4, .int i)] [] zD r (A0 + (C / 64 - r.2.2.2 / 64)) (B0 + 2 * (C - r.2.2.2))) : zgr g C ∧ zK x 66 964 [(0, .ref 950), (1, .ref 0), (2, .ref 42), (3, .ref 72), (4, .int i)] [] zD g (A0 + 2 + (C / 64 - g.2.2.2 / 64)) (B0 + 12 + 2 * (C - g.2.2.2)) := by
  unfold nS_14 at h
  refine And.imp_right (fun kk => z_aload_n (pc := 964) hG 1 rfl rfl dL_law_964 kk) ?_
  refine And.imp_right (fun kk => z_aload_n (pc := 965) hG 0 rfl rfl dL_law_965 kk) ?_
  refine And.imp_right (fun kk => z_iload (pc := 966) hG 4 rfl dL_law_966 kk) ?_
  refine And.imp_right (fun kk => z_iconst (pc := 968) hG kc_1 dL_law_968 kk) ?_
  refine And.imp_right (fun kk => z_iadd (pc := 969) hG dL_law_969 kk) ?_
  refine And.imp_right (fun kk => z_scr (pc := 970) hG hS 1 (by decide) rfl dL_law_970 kk) ?_
  refine And.imp_right (fun kk => z_aload_n (pc := 971) hG 0 rfl rfl dL_law_971 kk) ?_
  refine And.imp_right (fun kk => z_iload (pc := 972) hG 4 rfl dL_law_972 kk) ?_
  refine And.imp_right (fun kk => z_iconst (pc := 974) hG kc_2 dL_law_974 kk) ?_
  refine And.imp_right (fun kk => z_iadd (pc := 975) hG dL_law_975 kk) ?_
  refine And.imp_right (fun kk => z_scr (pc := 976) hG hS 2 (by decide) rfl dL_law_976 kk) ?_
  refine And.imp_right (fun kk => z_aload_n (pc := 977) hG 3 rfl rfl dL_law_977 kk) ?_
  replace h := zbind h
  obtain ⟨v1, hv1, h⟩ := h
  replace h := zchk_some h
  obtain ⟨hqv1, h⟩ := h
  refine And.imp_right (fun kk => z_csH (A' := A0 + (C / 64 - g.2.2.2 / 64)) (B' := B0 + 2 * (C - g.2.2.2)) (rest := []) hG hPx [.ref 0, .int (a 1), .int (a 2), .ref 72] (tL_answer hl0 (a 1) (a 2) g hv1) zyH_answer w981 w980 dL_law_978 rfl (Nat.le_of_ble_eq_true rfl) (by omega) (by omega) rfl (Nat.le_of_ble_eq_true rfl) rfl kk) ?_
  refine zpc (of_decide_eq_true hqv1) ?_
  refine And.imp_right (fun kk => z_istore (pc := 981) (ls' := [(5, .int v1.1), (0, .ref 950), (1, .ref 0), (2, .ref 42), (3, .ref 72), (4, .int i)]) hG [0, 1, 2, 3, 4, 5] (by decide) rfl dL_law_981 kk) ?_
  refine And.imp_right (fun kk => z_aload_n (pc := 983) hG 3 rfl rfl dL_law_983 kk) ?_
  refine And.imp_right (fun kk => z_aload_n (pc := 984) hG 1 rfl rfl dL_law_984 kk) ?_
  refine And.imp_right (fun kk => z_iload (pc := 985) hG 5 rfl dL_law_985 kk) ?_
  refine And.imp_right (fun kk => z_iconst (pc := 987) hG kc_1 dL_law_987 kk) ?_
  refine And.imp_right (fun kk => z_iadd (pc := 988) hG dL_law_988 kk) ?_
  refine And.imp_right (fun kk => z_scr (pc := 989) hG hS 1 (by decide) rfl dL_law_989 kk) ?_
  refine And.imp_right (fun kk => z_aload_n (pc := 990) hG 1 rfl rfl dL_law_990 kk) ?_
  refine And.imp_right (fun kk => z_iload (pc := 991) hG 5 rfl dL_law_991 kk) ?_
  refine And.imp_right (fun kk => z_iconst (pc := 993) hG kc_2 dL_law_993 kk) ?_
  refine And.imp_right (fun kk => z_iadd (pc := 994) hG dL_law_994 kk) ?_
  refine And.imp_right (fun kk => z_scr (pc := 995) hG hS 2 (by decide) rfl dL_law_995 kk) ?_
  replace h := zbind h
  obtain ⟨v2, hv2, h⟩ := h
  replace h := zchk_some h
  obtain ⟨hqv2, h⟩ := h
  refine And.imp_right (fun kk => z_cvI (A' := A0 + (C / 64 - v1.2.2.2.2 / 64)) (B' := B0 + 2 * (C - v1.2.2.2.2)) (nc := 0) (ns := 0) (rest := []) hG [.int (a 1), .int (a 2)] zc_X11 DL_42 (tX11_answer hl0 (a 1) (a 2) v1.2 hv2) zy_X11_answer ⟨w1796, w1797⟩ w1795 dL_law_996 rfl (Nat.le_of_ble_eq_true rfl) (by omega) (by omega) rfl (Nat.le_of_ble_eq_true rfl) rfl kk) ?_
  refine zpc (of_decide_eq_true hqv2) ?_
  refine And.imp_right (fun kk => z_istore (pc := 999) (ls' := [(6, .int v2.1), (5, .int v1.1), (0, .ref 950), (1, .ref 0), (2, .ref 42), (3, .ref 72), (4, .int i)]) hG [0, 1, 2, 3, 4, 5, 6] (by decide) rfl dL_law_999 kk) ?_
  refine And.imp_right (fun kk => z_aload_n (pc := 1001) hG 4 rfl rfl dL_law_1001 kk) ?_
  replace h := zbind h
  obtain ⟨v3, hv3, h⟩ := h
  refine And.imp_right (fun kk => z_cvI (A' := A0 + (C / 64 - v2.2.2.2.2 / 64)) (B' := B0 + 2 * (C - v2.2.2.2.2)) (nc := 0) (ns := 0) (rest := []) hG [] zc_X11 DL_42 (tX11_thrown hl0  v2.2 hv3) zy_X11_thrown ⟨w1595, w1596⟩ w1594 dL_law_1002 rfl (Nat.le_of_ble_eq_true rfl) (by omega) (by omega) rfl (Nat.le_of_ble_eq_true rfl) rfl kk) ?_
  refine And.imp_right (fun kk => z_iload (pc := 1005) hG 1 rfl dL_law_1005 kk) ?_
  by_cases hc : v3 = v1.1
  rotate_left
  · replace h := zif_f hc h
    cases h
  replace h := zif_t hc h
  refine And.imp_right (fun kk => z_icmp_eq (pc := 1007) (tgt := 1012) hG dL_law_1007 rfl (fun _ => kk) (fun q => (q hc).elim)) ?_
  refine And.imp_right (fun kk => z_iload (pc := 1012) hG 1 rfl dL_law_1012 kk) ?_
  refine zbr (c := v1.1 = 0) (fun hc => ?_) (fun hc => ?_) (fun k1 k2 => z_if_ne (pc := 1014) (tgt := 1029) hG dL_law_1014 rfl k2 k1)
  · replace h := zif_t hc h
    refine And.imp_right (fun kk => z_aload_n (pc := 1017) hG 5 rfl rfl dL_law_1017 kk) ?_
    refine And.imp_right (fun kk => z_iconst (pc := 1018) hG kc_0 dL_law_1018 kk) ?_
    refine And.imp_right (fun kk => z_lald (pc := 1019) hG DL_72 (zin_in (by decide)) dL_law_1019 kk) ?_
    refine And.imp_right (fun kk => z_iload (pc := 1020) hG 0 rfl dL_law_1020 kk) ?_
    refine And.imp_right (fun kk => z_i2l (pc := 1022) hG dL_law_1022 kk) ?_
    refine And.imp_right (fun kk => z_lcmp (pc := 1023) hG dL_law_1023 kk) ?_
    by_cases hc : (lg_cmp (v2.2.2.1 72 (0 : Int32).toNatClampNeg) v2.1.toInt64) = 0
    rotate_left
    · replace h := zif_f hc h
      cases h
    replace h := zif_t hc h
    refine And.imp_right (fun kk => z_if_eq (pc := 1024) (tgt := 1029) hG dL_law_1024 rfl (fun _ => kk) (fun q => (q hc).elim)) ?_
    refine And.imp_right (fun kk => z_goto (pc := 1029) (tgt := 3017) hG dL_law_1029 rfl kk) ?_
    obtain rfl := Option.some.inj h
    refine And.imp_right (fun kk => z_sub (ls' := [(0, .ref 950), (1, .ref 0), (2, .ref 42), (3, .ref 72), (4, .int i)]) [2, 3, 4, 5, 6] rfl kk) ?_
    exact kf
  · replace h := zif_f hc h
    refine And.imp_right (fun kk => z_goto (pc := 1029) (tgt := 3017) hG dL_law_1029 rfl kk) ?_
    obtain rfl := Option.some.inj h
    refine And.imp_right (fun kk => z_sub (ls' := [(0, .ref 950), (1, .ref 0), (2, .ref 42), (3, .ref 72), (4, .int i)]) [2, 3, 4, 5, 6] rfl kk) ?_
    exact kf
noncomputable def nS_15 (a : Nat → Int32) (g : zS) : Option zS :=
  (nL_tell (a 1) (a 2) (a 3) g).bind fun v1 => zchk (decide (v1.2.2.2.2 = g.2.2.2)) ((nX11_tell (a 1) (a 2) (a 3) v1.2).bind fun v2 => zchk (decide (v2.2.2.2.2 = v1.2.2.2.2)) ((nX11_thrown v2.2).bind fun v3 => if v3 = v1.1 then (if v1.1 = 0 then (if (lg_cmp (v2.2.2.1 72 (0 : Int32).toNatClampNeg) v2.1.toInt64) = 0 then (some v2.2) else (none)) else (some v2.2)) else (none)))
set_option maxHeartbeats 1000000 in
theorem tS_15 {x : zXx} {i : Int32} {a : Nat → Int32} (hl0 : (zl0 x).flags = flags0) (hG : zG x cL_law 7 RL ret) (hPx : zPx x.2.2.2.2.1) (hS : zScr x i a) {A0 B0 C : Nat} (g : zS) {r : zS} (h : nS_15 a g = some r) (kf : zgr r C ∧ zK x 66 3017 [(0, .ref 950), (1, .ref 0), (2, .ref 42), (3, .ref 72), (4, .int i)] [] zD r (A0 + (C / 64 - r.2.2.2 / 64)) (B0 + 2 * (C - r.2.2.2))) : zgr g C ∧ zK x 66 1032 [(0, .ref 950), (1, .ref 0), (2, .ref 42), (3, .ref 72), (4, .int i)] [] zD g (A0 + 3 + (C / 64 - g.2.2.2 / 64)) (B0 + 18 + 2 * (C - g.2.2.2)) := by
  unfold nS_15 at h
  refine And.imp_right (fun kk => z_aload_n (pc := 1032) hG 1 rfl rfl dL_law_1032 kk) ?_
  refine And.imp_right (fun kk => z_aload_n (pc := 1033) hG 0 rfl rfl dL_law_1033 kk) ?_
  refine And.imp_right (fun kk => z_iload (pc := 1034) hG 4 rfl dL_law_1034 kk) ?_
  refine And.imp_right (fun kk => z_iconst (pc := 1036) hG kc_1 dL_law_1036 kk) ?_
  refine And.imp_right (fun kk => z_iadd (pc := 1037) hG dL_law_1037 kk) ?_
  refine And.imp_right (fun kk => z_scr (pc := 1038) hG hS 1 (by decide) rfl dL_law_1038 kk) ?_
  refine And.imp_right (fun kk => z_aload_n (pc := 1039) hG 0 rfl rfl dL_law_1039 kk) ?_
  refine And.imp_right (fun kk => z_iload (pc := 1040) hG 4 rfl dL_law_1040 kk) ?_
  refine And.imp_right (fun kk => z_iconst (pc := 1042) hG kc_2 dL_law_1042 kk) ?_
  refine And.imp_right (fun kk => z_iadd (pc := 1043) hG dL_law_1043 kk) ?_
  refine And.imp_right (fun kk => z_scr (pc := 1044) hG hS 2 (by decide) rfl dL_law_1044 kk) ?_
  refine And.imp_right (fun kk => z_aload_n (pc := 1045) hG 0 rfl rfl dL_law_1045 kk) ?_
  refine And.imp_right (fun kk => z_iload (pc := 1046) hG 4 rfl dL_law_1046 kk) ?_
  refine And.imp_right (fun kk => z_iconst (pc := 1048) hG kc_3 dL_law_1048 kk) ?_
  refine And.imp_right (fun kk => z_iadd (pc := 1049) hG dL_law_1049 kk) ?_
  refine And.imp_right (fun kk => z_scr (pc := 1050) hG hS 3 (by decide) rfl dL_law_1050 kk) ?_
  refine And.imp_right (fun kk => z_aload_n (pc := 1051) hG 3 rfl rfl dL_law_1051 kk) ?_
  replace h := zbind h
  obtain ⟨v1, hv1, h⟩ := h
  replace h := zchk_some h
  obtain ⟨hqv1, h⟩ := h
  refine And.imp_right (fun kk => z_csH (A' := A0 + (C / 64 - g.2.2.2 / 64)) (B' := B0 + 2 * (C - g.2.2.2)) (rest := []) hG hPx [.ref 0, .int (a 1), .int (a 2), .int (a 3), .ref 72] (tL_tell hl0 (a 1) (a 2) (a 3) g hv1) zyH_tell w997 w996 dL_law_1052 rfl (Nat.le_of_ble_eq_true rfl) (by omega) (by omega) rfl (Nat.le_of_ble_eq_true rfl) rfl kk) ?_
  refine zpc (of_decide_eq_true hqv1) ?_
  refine And.imp_right (fun kk => z_istore (pc := 1055) (ls' := [(5, .int v1.1), (0, .ref 950), (1, .ref 0), (2, .ref 42), (3, .ref 72), (4, .int i)]) hG [0, 1, 2, 3, 4, 5] (by decide) rfl dL_law_1055 kk) ?_
  refine And.imp_right (fun kk => z_aload_n (pc := 1057) hG 3 rfl rfl dL_law_1057 kk) ?_
  refine And.imp_right (fun kk => z_aload_n (pc := 1058) hG 1 rfl rfl dL_law_1058 kk) ?_
  refine And.imp_right (fun kk => z_iload (pc := 1059) hG 5 rfl dL_law_1059 kk) ?_
  refine And.imp_right (fun kk => z_iconst (pc := 1061) hG kc_1 dL_law_1061 kk) ?_
  refine And.imp_right (fun kk => z_iadd (pc := 1062) hG dL_law_1062 kk) ?_
  refine And.imp_right (fun kk => z_scr (pc := 1063) hG hS 1 (by decide) rfl dL_law_1063 kk) ?_
  refine And.imp_right (fun kk => z_aload_n (pc := 1064) hG 1 rfl rfl dL_law_1064 kk) ?_
  refine And.imp_right (fun kk => z_iload (pc := 1065) hG 5 rfl dL_law_1065 kk) ?_
  refine And.imp_right (fun kk => z_iconst (pc := 1067) hG kc_2 dL_law_1067 kk) ?_
  refine And.imp_right (fun kk => z_iadd (pc := 1068) hG dL_law_1068 kk) ?_
  refine And.imp_right (fun kk => z_scr (pc := 1069) hG hS 2 (by decide) rfl dL_law_1069 kk) ?_
  refine And.imp_right (fun kk => z_aload_n (pc := 1070) hG 1 rfl rfl dL_law_1070 kk) ?_
  refine And.imp_right (fun kk => z_iload (pc := 1071) hG 5 rfl dL_law_1071 kk) ?_
  refine And.imp_right (fun kk => z_iconst (pc := 1073) hG kc_3 dL_law_1073 kk) ?_
  refine And.imp_right (fun kk => z_iadd (pc := 1074) hG dL_law_1074 kk) ?_
  refine And.imp_right (fun kk => z_scr (pc := 1075) hG hS 3 (by decide) rfl dL_law_1075 kk) ?_
  replace h := zbind h
  obtain ⟨v2, hv2, h⟩ := h
  replace h := zchk_some h
  obtain ⟨hqv2, h⟩ := h
  refine And.imp_right (fun kk => z_cvI (A' := A0 + (C / 64 - v1.2.2.2.2 / 64)) (B' := B0 + 2 * (C - v1.2.2.2.2)) (nc := 0) (ns := 0) (rest := []) hG [.int (a 1), .int (a 2), .int (a 3)] zc_X11 DL_42 (tX11_tell hl0 (a 1) (a 2) (a 3) v1.2 hv2) zy_X11_tell ⟨w1808, w1809⟩ w1807 dL_law_1076 rfl (Nat.le_of_ble_eq_true rfl) (by omega) (by omega) rfl (Nat.le_of_ble_eq_true rfl) rfl kk) ?_
  refine zpc (of_decide_eq_true hqv2) ?_
  refine And.imp_right (fun kk => z_istore (pc := 1079) (ls' := [(6, .int v2.1), (5, .int v1.1), (0, .ref 950), (1, .ref 0), (2, .ref 42), (3, .ref 72), (4, .int i)]) hG [0, 1, 2, 3, 4, 5, 6] (by decide) rfl dL_law_1079 kk) ?_
  refine And.imp_right (fun kk => z_aload_n (pc := 1081) hG 4 rfl rfl dL_law_1081 kk) ?_
  replace h := zbind h
  obtain ⟨v3, hv3, h⟩ := h
  refine And.imp_right (fun kk => z_cvI (A' := A0 + (C / 64 - v2.2.2.2.2 / 64)) (B' := B0 + 2 * (C - v2.2.2.2.2)) (nc := 0) (ns := 0) (rest := []) hG [] zc_X11 DL_42 (tX11_thrown hl0  v2.2 hv3) zy_X11_thrown ⟨w1595, w1596⟩ w1594 dL_law_1082 rfl (Nat.le_of_ble_eq_true rfl) (by omega) (by omega) rfl (Nat.le_of_ble_eq_true rfl) rfl kk) ?_
  refine And.imp_right (fun kk => z_iload (pc := 1085) hG 1 rfl dL_law_1085 kk) ?_
  by_cases hc : v3 = v1.1
  rotate_left
  · replace h := zif_f hc h
    cases h
  replace h := zif_t hc h
  refine And.imp_right (fun kk => z_icmp_eq (pc := 1087) (tgt := 1092) hG dL_law_1087 rfl (fun _ => kk) (fun q => (q hc).elim)) ?_
  refine And.imp_right (fun kk => z_iload (pc := 1092) hG 1 rfl dL_law_1092 kk) ?_
  refine zbr (c := v1.1 = 0) (fun hc => ?_) (fun hc => ?_) (fun k1 k2 => z_if_ne (pc := 1094) (tgt := 1109) hG dL_law_1094 rfl k2 k1)
  · replace h := zif_t hc h
    refine And.imp_right (fun kk => z_aload_n (pc := 1097) hG 5 rfl rfl dL_law_1097 kk) ?_
    refine And.imp_right (fun kk => z_iconst (pc := 1098) hG kc_0 dL_law_1098 kk) ?_
    refine And.imp_right (fun kk => z_lald (pc := 1099) hG DL_72 (zin_in (by decide)) dL_law_1099 kk) ?_
    refine And.imp_right (fun kk => z_iload (pc := 1100) hG 0 rfl dL_law_1100 kk) ?_
    refine And.imp_right (fun kk => z_i2l (pc := 1102) hG dL_law_1102 kk) ?_
    refine And.imp_right (fun kk => z_lcmp (pc := 1103) hG dL_law_1103 kk) ?_
    by_cases hc : (lg_cmp (v2.2.2.1 72 (0 : Int32).toNatClampNeg) v2.1.toInt64) = 0
    rotate_left
    · replace h := zif_f hc h
      cases h
    replace h := zif_t hc h
    refine And.imp_right (fun kk => z_if_eq (pc := 1104) (tgt := 1109) hG dL_law_1104 rfl (fun _ => kk) (fun q => (q hc).elim)) ?_
    refine And.imp_right (fun kk => z_goto (pc := 1109) (tgt := 3017) hG dL_law_1109 rfl kk) ?_
    obtain rfl := Option.some.inj h
    refine And.imp_right (fun kk => z_sub (ls' := [(0, .ref 950), (1, .ref 0), (2, .ref 42), (3, .ref 72), (4, .int i)]) [2, 3, 4, 5, 6] rfl kk) ?_
    exact kf
  · replace h := zif_f hc h
    refine And.imp_right (fun kk => z_goto (pc := 1109) (tgt := 3017) hG dL_law_1109 rfl kk) ?_
    obtain rfl := Option.some.inj h
    refine And.imp_right (fun kk => z_sub (ls' := [(0, .ref 950), (1, .ref 0), (2, .ref 42), (3, .ref 72), (4, .int i)]) [2, 3, 4, 5, 6] rfl kk) ?_
    exact kf
noncomputable def nS_16 (a : Nat → Int32) (g : zS) : Option zS :=
  (nL_copy (a 1) g).bind fun v1 => zchk (decide (v1.2.2.2.2 = g.2.2.2)) ((nX11_copy (a 1) v1.2).bind fun v2 => zchk (decide (v2.2.2.2.2 = v1.2.2.2.2)) ((nX11_thrown v2.2).bind fun v3 => if v3 = v1.1 then (if v1.1 = 0 then (if (lg_cmp (v2.2.2.1 72 (0 : Int32).toNatClampNeg) v2.1.toInt64) = 0 then (some v2.2) else (none)) else (some v2.2)) else (none)))
set_option maxHeartbeats 1000000 in
theorem tS_16 {x : zXx} {i : Int32} {a : Nat → Int32} (hl0 : (zl0 x).flags = flags0) (hG : zG x cL_law 7 RL ret) (hPx : zPx x.2.2.2.2.1) (hS : zScr x i a) {A0 B0 C : Nat} (g : zS) {r : zS} (h : nS_16 a g = some r) (kf : zgr r C ∧ zK x 66 3017 [(0, .ref 950), (1, .ref 0), (2, .ref 42), (3, .ref 72), (4, .int i)] [] zD r (A0 + (C / 64 - r.2.2.2 / 64)) (B0 + 2 * (C - r.2.2.2))) : zgr g C ∧ zK x 66 1112 [(0, .ref 950), (1, .ref 0), (2, .ref 42), (3, .ref 72), (4, .int i)] [] zD g (A0 + 2 + (C / 64 - g.2.2.2 / 64)) (B0 + 12 + 2 * (C - g.2.2.2)) := by
  unfold nS_16 at h
  refine And.imp_right (fun kk => z_aload_n (pc := 1112) hG 1 rfl rfl dL_law_1112 kk) ?_
  refine And.imp_right (fun kk => z_aload_n (pc := 1113) hG 0 rfl rfl dL_law_1113 kk) ?_
  refine And.imp_right (fun kk => z_iload (pc := 1114) hG 4 rfl dL_law_1114 kk) ?_
  refine And.imp_right (fun kk => z_iconst (pc := 1116) hG kc_1 dL_law_1116 kk) ?_
  refine And.imp_right (fun kk => z_iadd (pc := 1117) hG dL_law_1117 kk) ?_
  refine And.imp_right (fun kk => z_scr (pc := 1118) hG hS 1 (by decide) rfl dL_law_1118 kk) ?_
  refine And.imp_right (fun kk => z_aload_n (pc := 1119) hG 3 rfl rfl dL_law_1119 kk) ?_
  replace h := zbind h
  obtain ⟨v1, hv1, h⟩ := h
  replace h := zchk_some h
  obtain ⟨hqv1, h⟩ := h
  refine And.imp_right (fun kk => z_csH (A' := A0 + (C / 64 - g.2.2.2 / 64)) (B' := B0 + 2 * (C - g.2.2.2)) (rest := []) hG hPx [.ref 0, .int (a 1), .ref 72] (tL_copy hl0 (a 1) g hv1) zyH_copy w1013 w1012 dL_law_1120 rfl (Nat.le_of_ble_eq_true rfl) (by omega) (by omega) rfl (Nat.le_of_ble_eq_true rfl) rfl kk) ?_
  refine zpc (of_decide_eq_true hqv1) ?_
  refine And.imp_right (fun kk => z_istore (pc := 1123) (ls' := [(5, .int v1.1), (0, .ref 950), (1, .ref 0), (2, .ref 42), (3, .ref 72), (4, .int i)]) hG [0, 1, 2, 3, 4, 5] (by decide) rfl dL_law_1123 kk) ?_
  refine And.imp_right (fun kk => z_aload_n (pc := 1125) hG 3 rfl rfl dL_law_1125 kk) ?_
  refine And.imp_right (fun kk => z_aload_n (pc := 1126) hG 1 rfl rfl dL_law_1126 kk) ?_
  refine And.imp_right (fun kk => z_iload (pc := 1127) hG 5 rfl dL_law_1127 kk) ?_
  refine And.imp_right (fun kk => z_iconst (pc := 1129) hG kc_1 dL_law_1129 kk) ?_
  refine And.imp_right (fun kk => z_iadd (pc := 1130) hG dL_law_1130 kk) ?_
  refine And.imp_right (fun kk => z_scr (pc := 1131) hG hS 1 (by decide) rfl dL_law_1131 kk) ?_
  replace h := zbind h
  obtain ⟨v2, hv2, h⟩ := h
  replace h := zchk_some h
  obtain ⟨hqv2, h⟩ := h
  refine And.imp_right (fun kk => z_cvI (A' := A0 + (C / 64 - v1.2.2.2.2 / 64)) (B' := B0 + 2 * (C - v1.2.2.2.2)) (nc := 0) (ns := 0) (rest := []) hG [.int (a 1)] zc_X11 DL_42 (tX11_copy hl0 (a 1) v1.2 hv2) zy_X11_copy ⟨w1816, w1817⟩ w1815 dL_law_1132 rfl (Nat.le_of_ble_eq_true rfl) (by omega) (by omega) rfl (Nat.le_of_ble_eq_true rfl) rfl kk) ?_
  refine zpc (of_decide_eq_true hqv2) ?_
  refine And.imp_right (fun kk => z_istore (pc := 1135) (ls' := [(6, .int v2.1), (5, .int v1.1), (0, .ref 950), (1, .ref 0), (2, .ref 42), (3, .ref 72), (4, .int i)]) hG [0, 1, 2, 3, 4, 5, 6] (by decide) rfl dL_law_1135 kk) ?_
  refine And.imp_right (fun kk => z_aload_n (pc := 1137) hG 4 rfl rfl dL_law_1137 kk) ?_
  replace h := zbind h
  obtain ⟨v3, hv3, h⟩ := h
  refine And.imp_right (fun kk => z_cvI (A' := A0 + (C / 64 - v2.2.2.2.2 / 64)) (B' := B0 + 2 * (C - v2.2.2.2.2)) (nc := 0) (ns := 0) (rest := []) hG [] zc_X11 DL_42 (tX11_thrown hl0  v2.2 hv3) zy_X11_thrown ⟨w1595, w1596⟩ w1594 dL_law_1138 rfl (Nat.le_of_ble_eq_true rfl) (by omega) (by omega) rfl (Nat.le_of_ble_eq_true rfl) rfl kk) ?_
  refine And.imp_right (fun kk => z_iload (pc := 1141) hG 1 rfl dL_law_1141 kk) ?_
  by_cases hc : v3 = v1.1
  rotate_left
  · replace h := zif_f hc h
    cases h
  replace h := zif_t hc h
  refine And.imp_right (fun kk => z_icmp_eq (pc := 1143) (tgt := 1148) hG dL_law_1143 rfl (fun _ => kk) (fun q => (q hc).elim)) ?_
  refine And.imp_right (fun kk => z_iload (pc := 1148) hG 1 rfl dL_law_1148 kk) ?_
  refine zbr (c := v1.1 = 0) (fun hc => ?_) (fun hc => ?_) (fun k1 k2 => z_if_ne (pc := 1150) (tgt := 1165) hG dL_law_1150 rfl k2 k1)
  · replace h := zif_t hc h
    refine And.imp_right (fun kk => z_aload_n (pc := 1153) hG 5 rfl rfl dL_law_1153 kk) ?_
    refine And.imp_right (fun kk => z_iconst (pc := 1154) hG kc_0 dL_law_1154 kk) ?_
    refine And.imp_right (fun kk => z_lald (pc := 1155) hG DL_72 (zin_in (by decide)) dL_law_1155 kk) ?_
    refine And.imp_right (fun kk => z_iload (pc := 1156) hG 0 rfl dL_law_1156 kk) ?_
    refine And.imp_right (fun kk => z_i2l (pc := 1158) hG dL_law_1158 kk) ?_
    refine And.imp_right (fun kk => z_lcmp (pc := 1159) hG dL_law_1159 kk) ?_
    by_cases hc : (lg_cmp (v2.2.2.1 72 (0 : Int32).toNatClampNeg) v2.1.toInt64) = 0
    rotate_left
    · replace h := zif_f hc h
      cases h
    replace h := zif_t hc h
    refine And.imp_right (fun kk => z_if_eq (pc := 1160) (tgt := 1165) hG dL_law_1160 rfl (fun _ => kk) (fun q => (q hc).elim)) ?_
    refine And.imp_right (fun kk => z_goto (pc := 1165) (tgt := 3017) hG dL_law_1165 rfl kk) ?_
    obtain rfl := Option.some.inj h
    refine And.imp_right (fun kk => z_sub (ls' := [(0, .ref 950), (1, .ref 0), (2, .ref 42), (3, .ref 72), (4, .int i)]) [2, 3, 4, 5, 6] rfl kk) ?_
    exact kf
  · replace h := zif_f hc h
    refine And.imp_right (fun kk => z_goto (pc := 1165) (tgt := 3017) hG dL_law_1165 rfl kk) ?_
    obtain rfl := Option.some.inj h
    refine And.imp_right (fun kk => z_sub (ls' := [(0, .ref 950), (1, .ref 0), (2, .ref 42), (3, .ref 72), (4, .int i)]) [2, 3, 4, 5, 6] rfl kk) ?_
    exact kf
noncomputable def nS_17 (a : Nat → Int32) (g : zS) : Option zS :=
  (nL_drop  g).bind fun v1 => zchk (decide (v1.2.2.2.2 = g.2.2.2)) ((nX11_drop v1.2).bind fun v2 => zchk (decide (v2.2.2.2.2 = v1.2.2.2.2)) ((nX11_thrown v2.2).bind fun v3 => if v3 = v1.1 then (if v1.1 = 0 then (if (lg_cmp (v2.2.2.1 72 (0 : Int32).toNatClampNeg) v2.1.toInt64) = 0 then (some v2.2) else (none)) else (some v2.2)) else (none)))
set_option maxHeartbeats 1000000 in
theorem tS_17 {x : zXx} {i : Int32} {a : Nat → Int32} (hl0 : (zl0 x).flags = flags0) (hG : zG x cL_law 7 RL ret) (hPx : zPx x.2.2.2.2.1) (hS : zScr x i a) {A0 B0 C : Nat} (g : zS) {r : zS} (h : nS_17 a g = some r) (kf : zgr r C ∧ zK x 66 3017 [(0, .ref 950), (1, .ref 0), (2, .ref 42), (3, .ref 72), (4, .int i)] [] zD r (A0 + (C / 64 - r.2.2.2 / 64)) (B0 + 2 * (C - r.2.2.2))) : zgr g C ∧ zK x 66 1168 [(0, .ref 950), (1, .ref 0), (2, .ref 42), (3, .ref 72), (4, .int i)] [] zD g (A0 + 1 + (C / 64 - g.2.2.2 / 64)) (B0 + 6 + 2 * (C - g.2.2.2)) := by
  unfold nS_17 at h
  refine And.imp_right (fun kk => z_aload_n (pc := 1168) hG 1 rfl rfl dL_law_1168 kk) ?_
  refine And.imp_right (fun kk => z_aload_n (pc := 1169) hG 3 rfl rfl dL_law_1169 kk) ?_
  replace h := zbind h
  obtain ⟨v1, hv1, h⟩ := h
  replace h := zchk_some h
  obtain ⟨hqv1, h⟩ := h
  refine And.imp_right (fun kk => z_csH (A' := A0 + (C / 64 - g.2.2.2 / 64)) (B' := B0 + 2 * (C - g.2.2.2)) (rest := []) hG hPx [.ref 0, .ref 72] (tL_drop hl0  g hv1) zyH_drop w1036 w1035 dL_law_1170 rfl (Nat.le_of_ble_eq_true rfl) (by omega) (by omega) rfl (Nat.le_of_ble_eq_true rfl) rfl kk) ?_
  refine zpc (of_decide_eq_true hqv1) ?_
  refine And.imp_right (fun kk => z_istore (pc := 1173) (ls' := [(5, .int v1.1), (0, .ref 950), (1, .ref 0), (2, .ref 42), (3, .ref 72), (4, .int i)]) hG [0, 1, 2, 3, 4, 5] (by decide) rfl dL_law_1173 kk) ?_
  refine And.imp_right (fun kk => z_aload_n (pc := 1175) hG 3 rfl rfl dL_law_1175 kk) ?_
  replace h := zbind h
  obtain ⟨v2, hv2, h⟩ := h
  replace h := zchk_some h
  obtain ⟨hqv2, h⟩ := h
  refine And.imp_right (fun kk => z_cvI (A' := A0 + (C / 64 - v1.2.2.2.2 / 64)) (B' := B0 + 2 * (C - v1.2.2.2.2)) (nc := 0) (ns := 0) (rest := []) hG [] zc_X11 DL_42 (tX11_drop hl0  v1.2 hv2) zy_X11_drop ⟨w1820, w1821⟩ w1819 dL_law_1176 rfl (Nat.le_of_ble_eq_true rfl) (by omega) (by omega) rfl (Nat.le_of_ble_eq_true rfl) rfl kk) ?_
  refine zpc (of_decide_eq_true hqv2) ?_
  refine And.imp_right (fun kk => z_istore (pc := 1179) (ls' := [(6, .int v2.1), (5, .int v1.1), (0, .ref 950), (1, .ref 0), (2, .ref 42), (3, .ref 72), (4, .int i)]) hG [0, 1, 2, 3, 4, 5, 6] (by decide) rfl dL_law_1179 kk) ?_
  refine And.imp_right (fun kk => z_aload_n (pc := 1181) hG 4 rfl rfl dL_law_1181 kk) ?_
  replace h := zbind h
  obtain ⟨v3, hv3, h⟩ := h
  refine And.imp_right (fun kk => z_cvI (A' := A0 + (C / 64 - v2.2.2.2.2 / 64)) (B' := B0 + 2 * (C - v2.2.2.2.2)) (nc := 0) (ns := 0) (rest := []) hG [] zc_X11 DL_42 (tX11_thrown hl0  v2.2 hv3) zy_X11_thrown ⟨w1595, w1596⟩ w1594 dL_law_1182 rfl (Nat.le_of_ble_eq_true rfl) (by omega) (by omega) rfl (Nat.le_of_ble_eq_true rfl) rfl kk) ?_
  refine And.imp_right (fun kk => z_iload (pc := 1185) hG 1 rfl dL_law_1185 kk) ?_
  by_cases hc : v3 = v1.1
  rotate_left
  · replace h := zif_f hc h
    cases h
  replace h := zif_t hc h
  refine And.imp_right (fun kk => z_icmp_eq (pc := 1187) (tgt := 1192) hG dL_law_1187 rfl (fun _ => kk) (fun q => (q hc).elim)) ?_
  refine And.imp_right (fun kk => z_iload (pc := 1192) hG 1 rfl dL_law_1192 kk) ?_
  refine zbr (c := v1.1 = 0) (fun hc => ?_) (fun hc => ?_) (fun k1 k2 => z_if_ne (pc := 1194) (tgt := 1209) hG dL_law_1194 rfl k2 k1)
  · replace h := zif_t hc h
    refine And.imp_right (fun kk => z_aload_n (pc := 1197) hG 5 rfl rfl dL_law_1197 kk) ?_
    refine And.imp_right (fun kk => z_iconst (pc := 1198) hG kc_0 dL_law_1198 kk) ?_
    refine And.imp_right (fun kk => z_lald (pc := 1199) hG DL_72 (zin_in (by decide)) dL_law_1199 kk) ?_
    refine And.imp_right (fun kk => z_iload (pc := 1200) hG 0 rfl dL_law_1200 kk) ?_
    refine And.imp_right (fun kk => z_i2l (pc := 1202) hG dL_law_1202 kk) ?_
    refine And.imp_right (fun kk => z_lcmp (pc := 1203) hG dL_law_1203 kk) ?_
    by_cases hc : (lg_cmp (v2.2.2.1 72 (0 : Int32).toNatClampNeg) v2.1.toInt64) = 0
    rotate_left
    · replace h := zif_f hc h
      cases h
    replace h := zif_t hc h
    refine And.imp_right (fun kk => z_if_eq (pc := 1204) (tgt := 1209) hG dL_law_1204 rfl (fun _ => kk) (fun q => (q hc).elim)) ?_
    refine And.imp_right (fun kk => z_goto (pc := 1209) (tgt := 3017) hG dL_law_1209 rfl kk) ?_
    obtain rfl := Option.some.inj h
    refine And.imp_right (fun kk => z_sub (ls' := [(0, .ref 950), (1, .ref 0), (2, .ref 42), (3, .ref 72), (4, .int i)]) [2, 3, 4, 5, 6] rfl kk) ?_
    exact kf
  · replace h := zif_f hc h
    refine And.imp_right (fun kk => z_goto (pc := 1209) (tgt := 3017) hG dL_law_1209 rfl kk) ?_
    obtain rfl := Option.some.inj h
    refine And.imp_right (fun kk => z_sub (ls' := [(0, .ref 950), (1, .ref 0), (2, .ref 42), (3, .ref 72), (4, .int i)]) [2, 3, 4, 5, 6] rfl kk) ?_
    exact kf
noncomputable def nS_18 (a : Nat → Int32) (g : zS) : Option zS :=
  (nL_fails (a 1) g).bind fun v1 => zchk (decide (v1.2.2.2.2 = g.2.2.2)) ((nX11_fails (a 1) v1.2).bind fun v2 => zchk (decide (v2.2.2.2.2 = v1.2.2.2.2)) ((nX11_thrown v2.2).bind fun v3 => if v3 = v1.1 then (if v1.1 = 0 then (if (lg_cmp (v2.2.2.1 72 (0 : Int32).toNatClampNeg) v2.1.toInt64) = 0 then (some v2.2) else (none)) else (some v2.2)) else (none)))
set_option maxHeartbeats 1000000 in
theorem tS_18 {x : zXx} {i : Int32} {a : Nat → Int32} (hl0 : (zl0 x).flags = flags0) (hG : zG x cL_law 7 RL ret) (hPx : zPx x.2.2.2.2.1) (hS : zScr x i a) {A0 B0 C : Nat} (g : zS) {r : zS} (h : nS_18 a g = some r) (kf : zgr r C ∧ zK x 66 3017 [(0, .ref 950), (1, .ref 0), (2, .ref 42), (3, .ref 72), (4, .int i)] [] zD r (A0 + (C / 64 - r.2.2.2 / 64)) (B0 + 2 * (C - r.2.2.2))) : zgr g C ∧ zK x 66 1212 [(0, .ref 950), (1, .ref 0), (2, .ref 42), (3, .ref 72), (4, .int i)] [] zD g (A0 + 1 + (C / 64 - g.2.2.2 / 64)) (B0 + 6 + 2 * (C - g.2.2.2)) := by
  unfold nS_18 at h
  refine And.imp_right (fun kk => z_aload_n (pc := 1212) hG 1 rfl rfl dL_law_1212 kk) ?_
  refine And.imp_right (fun kk => z_aload_n (pc := 1213) hG 0 rfl rfl dL_law_1213 kk) ?_
  refine And.imp_right (fun kk => z_iload (pc := 1214) hG 4 rfl dL_law_1214 kk) ?_
  refine And.imp_right (fun kk => z_iconst (pc := 1216) hG kc_1 dL_law_1216 kk) ?_
  refine And.imp_right (fun kk => z_iadd (pc := 1217) hG dL_law_1217 kk) ?_
  refine And.imp_right (fun kk => z_scr (pc := 1218) hG hS 1 (by decide) rfl dL_law_1218 kk) ?_
  refine And.imp_right (fun kk => z_aload_n (pc := 1219) hG 3 rfl rfl dL_law_1219 kk) ?_
  replace h := zbind h
  obtain ⟨v1, hv1, h⟩ := h
  replace h := zchk_some h
  obtain ⟨hqv1, h⟩ := h
  refine And.imp_right (fun kk => z_csH (A' := A0 + (C / 64 - g.2.2.2 / 64)) (B' := B0 + 2 * (C - g.2.2.2)) (rest := []) hG hPx [.ref 0, .int (a 1), .ref 72] (tL_fails hl0 (a 1) g hv1) zyH_fails w1043 w1042 dL_law_1220 rfl (Nat.le_of_ble_eq_true rfl) (by omega) (by omega) rfl (Nat.le_of_ble_eq_true rfl) rfl kk) ?_
  refine zpc (of_decide_eq_true hqv1) ?_
  refine And.imp_right (fun kk => z_istore (pc := 1223) (ls' := [(5, .int v1.1), (0, .ref 950), (1, .ref 0), (2, .ref 42), (3, .ref 72), (4, .int i)]) hG [0, 1, 2, 3, 4, 5] (by decide) rfl dL_law_1223 kk) ?_
  refine And.imp_right (fun kk => z_aload_n (pc := 1225) hG 3 rfl rfl dL_law_1225 kk) ?_
  refine And.imp_right (fun kk => z_aload_n (pc := 1226) hG 1 rfl rfl dL_law_1226 kk) ?_
  refine And.imp_right (fun kk => z_iload (pc := 1227) hG 5 rfl dL_law_1227 kk) ?_
  refine And.imp_right (fun kk => z_iconst (pc := 1229) hG kc_1 dL_law_1229 kk) ?_
  refine And.imp_right (fun kk => z_iadd (pc := 1230) hG dL_law_1230 kk) ?_
  refine And.imp_right (fun kk => z_scr (pc := 1231) hG hS 1 (by decide) rfl dL_law_1231 kk) ?_
  replace h := zbind h
  obtain ⟨v2, hv2, h⟩ := h
  replace h := zchk_some h
  obtain ⟨hqv2, h⟩ := h
  refine And.imp_right (fun kk => z_cvI (A' := A0 + (C / 64 - v1.2.2.2.2 / 64)) (B' := B0 + 2 * (C - v1.2.2.2.2)) (nc := 0) (ns := 0) (rest := []) hG [.int (a 1)] zc_X11 DL_42 (tX11_fails hl0 (a 1) v1.2 hv2) zy_X11_fails ⟨w1824, w1825⟩ w1823 dL_law_1232 rfl (Nat.le_of_ble_eq_true rfl) (by omega) (by omega) rfl (Nat.le_of_ble_eq_true rfl) rfl kk) ?_
  refine zpc (of_decide_eq_true hqv2) ?_
  refine And.imp_right (fun kk => z_istore (pc := 1235) (ls' := [(6, .int v2.1), (5, .int v1.1), (0, .ref 950), (1, .ref 0), (2, .ref 42), (3, .ref 72), (4, .int i)]) hG [0, 1, 2, 3, 4, 5, 6] (by decide) rfl dL_law_1235 kk) ?_
  refine And.imp_right (fun kk => z_aload_n (pc := 1237) hG 4 rfl rfl dL_law_1237 kk) ?_
  replace h := zbind h
  obtain ⟨v3, hv3, h⟩ := h
  refine And.imp_right (fun kk => z_cvI (A' := A0 + (C / 64 - v2.2.2.2.2 / 64)) (B' := B0 + 2 * (C - v2.2.2.2.2)) (nc := 0) (ns := 0) (rest := []) hG [] zc_X11 DL_42 (tX11_thrown hl0  v2.2 hv3) zy_X11_thrown ⟨w1595, w1596⟩ w1594 dL_law_1238 rfl (Nat.le_of_ble_eq_true rfl) (by omega) (by omega) rfl (Nat.le_of_ble_eq_true rfl) rfl kk) ?_
  refine And.imp_right (fun kk => z_iload (pc := 1241) hG 1 rfl dL_law_1241 kk) ?_
  by_cases hc : v3 = v1.1
  rotate_left
  · replace h := zif_f hc h
    cases h
  replace h := zif_t hc h
  refine And.imp_right (fun kk => z_icmp_eq (pc := 1243) (tgt := 1248) hG dL_law_1243 rfl (fun _ => kk) (fun q => (q hc).elim)) ?_
  refine And.imp_right (fun kk => z_iload (pc := 1248) hG 1 rfl dL_law_1248 kk) ?_
  refine zbr (c := v1.1 = 0) (fun hc => ?_) (fun hc => ?_) (fun k1 k2 => z_if_ne (pc := 1250) (tgt := 1265) hG dL_law_1250 rfl k2 k1)
  · replace h := zif_t hc h
    refine And.imp_right (fun kk => z_aload_n (pc := 1253) hG 5 rfl rfl dL_law_1253 kk) ?_
    refine And.imp_right (fun kk => z_iconst (pc := 1254) hG kc_0 dL_law_1254 kk) ?_
    refine And.imp_right (fun kk => z_lald (pc := 1255) hG DL_72 (zin_in (by decide)) dL_law_1255 kk) ?_
    refine And.imp_right (fun kk => z_iload (pc := 1256) hG 0 rfl dL_law_1256 kk) ?_
    refine And.imp_right (fun kk => z_i2l (pc := 1258) hG dL_law_1258 kk) ?_
    refine And.imp_right (fun kk => z_lcmp (pc := 1259) hG dL_law_1259 kk) ?_
    by_cases hc : (lg_cmp (v2.2.2.1 72 (0 : Int32).toNatClampNeg) v2.1.toInt64) = 0
    rotate_left
    · replace h := zif_f hc h
      cases h
    replace h := zif_t hc h
    refine And.imp_right (fun kk => z_if_eq (pc := 1260) (tgt := 1265) hG dL_law_1260 rfl (fun _ => kk) (fun q => (q hc).elim)) ?_
    refine And.imp_right (fun kk => z_goto (pc := 1265) (tgt := 3017) hG dL_law_1265 rfl kk) ?_
    obtain rfl := Option.some.inj h
    refine And.imp_right (fun kk => z_sub (ls' := [(0, .ref 950), (1, .ref 0), (2, .ref 42), (3, .ref 72), (4, .int i)]) [2, 3, 4, 5, 6] rfl kk) ?_
    exact kf
  · replace h := zif_f hc h
    refine And.imp_right (fun kk => z_goto (pc := 1265) (tgt := 3017) hG dL_law_1265 rfl kk) ?_
    obtain rfl := Option.some.inj h
    refine And.imp_right (fun kk => z_sub (ls' := [(0, .ref 950), (1, .ref 0), (2, .ref 42), (3, .ref 72), (4, .int i)]) [2, 3, 4, 5, 6] rfl kk) ?_
    exact kf
noncomputable def nS_19 (a : Nat → Int32) (g : zS) : Option zS :=
  (nL_within (a 1) (a 2) g).bind fun v1 => zchk (decide (g.2.2.2 ≤ v1.2.2.2.2)) ((nX11_within (a 1) (a 2) v1.2).bind fun v2 => zchk (decide (v2.2.2.2.2 = v1.2.2.2.2)) ((nX11_thrown v2.2).bind fun v3 => if v3 = v1.1 then (if v1.1 = 0 then (if (lg_cmp (v2.2.2.1 72 (0 : Int32).toNatClampNeg) v2.1.toInt64) = 0 then (some v2.2) else (none)) else (some v2.2)) else (none)))
set_option maxHeartbeats 1000000 in
theorem tS_19 {x : zXx} {i : Int32} {a : Nat → Int32} (hl0 : (zl0 x).flags = flags0) (hG : zG x cL_law 7 RL ret) (hPx : zPx x.2.2.2.2.1) (hS : zScr x i a) {A0 B0 C : Nat} (g : zS) {r : zS} (h : nS_19 a g = some r) (kf : zgr r C ∧ zK x 66 3017 [(0, .ref 950), (1, .ref 0), (2, .ref 42), (3, .ref 72), (4, .int i)] [] zD r (A0 + (C / 64 - r.2.2.2 / 64)) (B0 + 2 * (C - r.2.2.2))) : zgr g C ∧ zK x 66 1268 [(0, .ref 950), (1, .ref 0), (2, .ref 42), (3, .ref 72), (4, .int i)] [] zD g (A0 + 2 + (C / 64 - g.2.2.2 / 64)) (B0 + 12 + 2 * (C - g.2.2.2)) := by
  unfold nS_19 at h
  refine And.imp_right (fun kk => z_aload_n (pc := 1268) hG 1 rfl rfl dL_law_1268 kk) ?_
  refine And.imp_right (fun kk => z_aload_n (pc := 1269) hG 0 rfl rfl dL_law_1269 kk) ?_
  refine And.imp_right (fun kk => z_iload (pc := 1270) hG 4 rfl dL_law_1270 kk) ?_
  refine And.imp_right (fun kk => z_iconst (pc := 1272) hG kc_1 dL_law_1272 kk) ?_
  refine And.imp_right (fun kk => z_iadd (pc := 1273) hG dL_law_1273 kk) ?_
  refine And.imp_right (fun kk => z_scr (pc := 1274) hG hS 1 (by decide) rfl dL_law_1274 kk) ?_
  refine And.imp_right (fun kk => z_aload_n (pc := 1275) hG 0 rfl rfl dL_law_1275 kk) ?_
  refine And.imp_right (fun kk => z_iload (pc := 1276) hG 4 rfl dL_law_1276 kk) ?_
  refine And.imp_right (fun kk => z_iconst (pc := 1278) hG kc_2 dL_law_1278 kk) ?_
  refine And.imp_right (fun kk => z_iadd (pc := 1279) hG dL_law_1279 kk) ?_
  refine And.imp_right (fun kk => z_scr (pc := 1280) hG hS 2 (by decide) rfl dL_law_1280 kk) ?_
  refine And.imp_right (fun kk => z_aload_n (pc := 1281) hG 3 rfl rfl dL_law_1281 kk) ?_
  replace h := zbind h
  obtain ⟨v1, hv1, h⟩ := h
  replace h := zchk_some h
  obtain ⟨hqv1, h⟩ := h
  replace hqv1 := of_decide_eq_true hqv1
  refine And.elim (fun hb kk => ⟨Nat.le_trans hqv1 hb, z_csH (A' := A0 + (C / 64 - v1.2.2.2.2 / 64)) (B' := B0 + 2 * (C - v1.2.2.2.2)) (rest := []) hG hPx [.ref 0, .int (a 1), .int (a 2), .ref 72] (tL_within hl0 (a 1) (a 2) g hv1) zyH_within w1050 w1049 dL_law_1282 rfl (Nat.le_of_ble_eq_true rfl) (by have hb : v1.2.2.2.2 ≤ C := hb; omega) (by have hb : v1.2.2.2.2 ≤ C := hb; omega) rfl (Nat.le_of_ble_eq_true rfl) rfl kk⟩) ?_
  refine And.imp_right (fun kk => z_istore (pc := 1285) (ls' := [(5, .int v1.1), (0, .ref 950), (1, .ref 0), (2, .ref 42), (3, .ref 72), (4, .int i)]) hG [0, 1, 2, 3, 4, 5] (by decide) rfl dL_law_1285 kk) ?_
  refine And.imp_right (fun kk => z_aload_n (pc := 1287) hG 3 rfl rfl dL_law_1287 kk) ?_
  refine And.imp_right (fun kk => z_aload_n (pc := 1288) hG 1 rfl rfl dL_law_1288 kk) ?_
  refine And.imp_right (fun kk => z_iload (pc := 1289) hG 5 rfl dL_law_1289 kk) ?_
  refine And.imp_right (fun kk => z_iconst (pc := 1291) hG kc_1 dL_law_1291 kk) ?_
  refine And.imp_right (fun kk => z_iadd (pc := 1292) hG dL_law_1292 kk) ?_
  refine And.imp_right (fun kk => z_scr (pc := 1293) hG hS 1 (by decide) rfl dL_law_1293 kk) ?_
  refine And.imp_right (fun kk => z_aload_n (pc := 1294) hG 1 rfl rfl dL_law_1294 kk) ?_
  refine And.imp_right (fun kk => z_iload (pc := 1295) hG 5 rfl dL_law_1295 kk) ?_
  refine And.imp_right (fun kk => z_iconst (pc := 1297) hG kc_2 dL_law_1297 kk) ?_
  refine And.imp_right (fun kk => z_iadd (pc := 1298) hG dL_law_1298 kk) ?_
  refine And.imp_right (fun kk => z_scr (pc := 1299) hG hS 2 (by decide) rfl dL_law_1299 kk) ?_
  replace h := zbind h
  obtain ⟨v2, hv2, h⟩ := h
  replace h := zchk_some h
  obtain ⟨hqv2, h⟩ := h
  refine And.imp_right (fun kk => z_cvI (A' := A0 + (C / 64 - v1.2.2.2.2 / 64)) (B' := B0 + 2 * (C - v1.2.2.2.2)) (nc := 0) (ns := 0) (rest := []) hG [.int (a 1), .int (a 2)] zc_X11 DL_42 (tX11_within hl0 (a 1) (a 2) v1.2 hv2) zy_X11_within ⟨w1832, w1833⟩ w1831 dL_law_1300 rfl (Nat.le_of_ble_eq_true rfl) (by omega) (by omega) rfl (Nat.le_of_ble_eq_true rfl) rfl kk) ?_
  refine zpc (of_decide_eq_true hqv2) ?_
  refine And.imp_right (fun kk => z_istore (pc := 1303) (ls' := [(6, .int v2.1), (5, .int v1.1), (0, .ref 950), (1, .ref 0), (2, .ref 42), (3, .ref 72), (4, .int i)]) hG [0, 1, 2, 3, 4, 5, 6] (by decide) rfl dL_law_1303 kk) ?_
  refine And.imp_right (fun kk => z_aload_n (pc := 1305) hG 4 rfl rfl dL_law_1305 kk) ?_
  replace h := zbind h
  obtain ⟨v3, hv3, h⟩ := h
  refine And.imp_right (fun kk => z_cvI (A' := A0 + (C / 64 - v2.2.2.2.2 / 64)) (B' := B0 + 2 * (C - v2.2.2.2.2)) (nc := 0) (ns := 0) (rest := []) hG [] zc_X11 DL_42 (tX11_thrown hl0  v2.2 hv3) zy_X11_thrown ⟨w1595, w1596⟩ w1594 dL_law_1306 rfl (Nat.le_of_ble_eq_true rfl) (by omega) (by omega) rfl (Nat.le_of_ble_eq_true rfl) rfl kk) ?_
  refine And.imp_right (fun kk => z_iload (pc := 1309) hG 1 rfl dL_law_1309 kk) ?_
  by_cases hc : v3 = v1.1
  rotate_left
  · replace h := zif_f hc h
    cases h
  replace h := zif_t hc h
  refine And.imp_right (fun kk => z_icmp_eq (pc := 1311) (tgt := 1316) hG dL_law_1311 rfl (fun _ => kk) (fun q => (q hc).elim)) ?_
  refine And.imp_right (fun kk => z_iload (pc := 1316) hG 1 rfl dL_law_1316 kk) ?_
  refine zbr (c := v1.1 = 0) (fun hc => ?_) (fun hc => ?_) (fun k1 k2 => z_if_ne (pc := 1318) (tgt := 1333) hG dL_law_1318 rfl k2 k1)
  · replace h := zif_t hc h
    refine And.imp_right (fun kk => z_aload_n (pc := 1321) hG 5 rfl rfl dL_law_1321 kk) ?_
    refine And.imp_right (fun kk => z_iconst (pc := 1322) hG kc_0 dL_law_1322 kk) ?_
    refine And.imp_right (fun kk => z_lald (pc := 1323) hG DL_72 (zin_in (by decide)) dL_law_1323 kk) ?_
    refine And.imp_right (fun kk => z_iload (pc := 1324) hG 0 rfl dL_law_1324 kk) ?_
    refine And.imp_right (fun kk => z_i2l (pc := 1326) hG dL_law_1326 kk) ?_
    refine And.imp_right (fun kk => z_lcmp (pc := 1327) hG dL_law_1327 kk) ?_
    by_cases hc : (lg_cmp (v2.2.2.1 72 (0 : Int32).toNatClampNeg) v2.1.toInt64) = 0
    rotate_left
    · replace h := zif_f hc h
      cases h
    replace h := zif_t hc h
    refine And.imp_right (fun kk => z_if_eq (pc := 1328) (tgt := 1333) hG dL_law_1328 rfl (fun _ => kk) (fun q => (q hc).elim)) ?_
    refine And.imp_right (fun kk => z_goto (pc := 1333) (tgt := 3017) hG dL_law_1333 rfl kk) ?_
    obtain rfl := Option.some.inj h
    refine And.imp_right (fun kk => z_sub (ls' := [(0, .ref 950), (1, .ref 0), (2, .ref 42), (3, .ref 72), (4, .int i)]) [2, 3, 4, 5, 6] rfl kk) ?_
    exact kf
  · replace h := zif_f hc h
    refine And.imp_right (fun kk => z_goto (pc := 1333) (tgt := 3017) hG dL_law_1333 rfl kk) ?_
    obtain rfl := Option.some.inj h
    refine And.imp_right (fun kk => z_sub (ls' := [(0, .ref 950), (1, .ref 0), (2, .ref 42), (3, .ref 72), (4, .int i)]) [2, 3, 4, 5, 6] rfl kk) ?_
    exact kf
noncomputable def nS_20 (a : Nat → Int32) (g : zS) : Option zS :=
  (nL_may (a 1) (a 2) g).bind fun v1 => zchk (decide (v1.2.2.2.2 = g.2.2.2)) ((nX11_may (a 1) (a 2) v1.2).bind fun v2 => zchk (decide (v2.2.2.2.2 = v1.2.2.2.2)) ((nX11_thrown v2.2).bind fun v3 => if v3 = v1.1 then (if v1.1 = 0 then (if (lg_cmp (v2.2.2.1 72 (0 : Int32).toNatClampNeg) v2.1.toInt64) = 0 then (some v2.2) else (none)) else (some v2.2)) else (none)))
set_option maxHeartbeats 1000000 in
theorem tS_20 {x : zXx} {i : Int32} {a : Nat → Int32} (hl0 : (zl0 x).flags = flags0) (hG : zG x cL_law 7 RL ret) (hPx : zPx x.2.2.2.2.1) (hS : zScr x i a) {A0 B0 C : Nat} (g : zS) {r : zS} (h : nS_20 a g = some r) (kf : zgr r C ∧ zK x 66 3017 [(0, .ref 950), (1, .ref 0), (2, .ref 42), (3, .ref 72), (4, .int i)] [] zD r (A0 + (C / 64 - r.2.2.2 / 64)) (B0 + 2 * (C - r.2.2.2))) : zgr g C ∧ zK x 66 1336 [(0, .ref 950), (1, .ref 0), (2, .ref 42), (3, .ref 72), (4, .int i)] [] zD g (A0 + 3 + (C / 64 - g.2.2.2 / 64)) (B0 + 18 + 2 * (C - g.2.2.2)) := by
  unfold nS_20 at h
  refine And.imp_right (fun kk => z_aload_n (pc := 1336) hG 1 rfl rfl dL_law_1336 kk) ?_
  refine And.imp_right (fun kk => z_aload_n (pc := 1337) hG 0 rfl rfl dL_law_1337 kk) ?_
  refine And.imp_right (fun kk => z_iload (pc := 1338) hG 4 rfl dL_law_1338 kk) ?_
  refine And.imp_right (fun kk => z_iconst (pc := 1340) hG kc_1 dL_law_1340 kk) ?_
  refine And.imp_right (fun kk => z_iadd (pc := 1341) hG dL_law_1341 kk) ?_
  refine And.imp_right (fun kk => z_scr (pc := 1342) hG hS 1 (by decide) rfl dL_law_1342 kk) ?_
  refine And.imp_right (fun kk => z_aload_n (pc := 1343) hG 0 rfl rfl dL_law_1343 kk) ?_
  refine And.imp_right (fun kk => z_iload (pc := 1344) hG 4 rfl dL_law_1344 kk) ?_
  refine And.imp_right (fun kk => z_iconst (pc := 1346) hG kc_2 dL_law_1346 kk) ?_
  refine And.imp_right (fun kk => z_iadd (pc := 1347) hG dL_law_1347 kk) ?_
  refine And.imp_right (fun kk => z_scr (pc := 1348) hG hS 2 (by decide) rfl dL_law_1348 kk) ?_
  refine And.imp_right (fun kk => z_aload_n (pc := 1349) hG 3 rfl rfl dL_law_1349 kk) ?_
  replace h := zbind h
  obtain ⟨v1, hv1, h⟩ := h
  replace h := zchk_some h
  obtain ⟨hqv1, h⟩ := h
  refine And.imp_right (fun kk => z_csH (A' := A0 + (C / 64 - g.2.2.2 / 64)) (B' := B0 + 2 * (C - g.2.2.2)) (rest := []) hG hPx [.ref 0, .int (a 1), .int (a 2), .ref 72] (tL_may hl0 (a 1) (a 2) g hv1) zyH_may w1072 w1071 dL_law_1350 rfl (Nat.le_of_ble_eq_true rfl) (by omega) (by omega) rfl (Nat.le_of_ble_eq_true rfl) rfl kk) ?_
  refine zpc (of_decide_eq_true hqv1) ?_
  refine And.imp_right (fun kk => z_istore (pc := 1353) (ls' := [(5, .int v1.1), (0, .ref 950), (1, .ref 0), (2, .ref 42), (3, .ref 72), (4, .int i)]) hG [0, 1, 2, 3, 4, 5] (by decide) rfl dL_law_1353 kk) ?_
  refine And.imp_right (fun kk => z_aload_n (pc := 1355) hG 3 rfl rfl dL_law_1355 kk) ?_
  refine And.imp_right (fun kk => z_aload_n (pc := 1356) hG 1 rfl rfl dL_law_1356 kk) ?_
  refine And.imp_right (fun kk => z_iload (pc := 1357) hG 5 rfl dL_law_1357 kk) ?_
  refine And.imp_right (fun kk => z_iconst (pc := 1359) hG kc_1 dL_law_1359 kk) ?_
  refine And.imp_right (fun kk => z_iadd (pc := 1360) hG dL_law_1360 kk) ?_
  refine And.imp_right (fun kk => z_scr (pc := 1361) hG hS 1 (by decide) rfl dL_law_1361 kk) ?_
  refine And.imp_right (fun kk => z_aload_n (pc := 1362) hG 1 rfl rfl dL_law_1362 kk) ?_
  refine And.imp_right (fun kk => z_iload (pc := 1363) hG 5 rfl dL_law_1363 kk) ?_
  refine And.imp_right (fun kk => z_iconst (pc := 1365) hG kc_2 dL_law_1365 kk) ?_
  refine And.imp_right (fun kk => z_iadd (pc := 1366) hG dL_law_1366 kk) ?_
  refine And.imp_right (fun kk => z_scr (pc := 1367) hG hS 2 (by decide) rfl dL_law_1367 kk) ?_
  replace h := zbind h
  obtain ⟨v2, hv2, h⟩ := h
  replace h := zchk_some h
  obtain ⟨hqv2, h⟩ := h
  refine And.imp_right (fun kk => z_cvI (A' := A0 + (C / 64 - v1.2.2.2.2 / 64)) (B' := B0 + 2 * (C - v1.2.2.2.2)) (nc := 0) (ns := 0) (rest := []) hG [.int (a 1), .int (a 2)] zc_X11 DL_42 (tX11_may hl0 (a 1) (a 2) v1.2 hv2) zy_X11_may ⟨w1844, w1845⟩ w1843 dL_law_1368 rfl (Nat.le_of_ble_eq_true rfl) (by omega) (by omega) rfl (Nat.le_of_ble_eq_true rfl) rfl kk) ?_
  refine zpc (of_decide_eq_true hqv2) ?_
  refine And.imp_right (fun kk => z_istore (pc := 1371) (ls' := [(6, .int v2.1), (5, .int v1.1), (0, .ref 950), (1, .ref 0), (2, .ref 42), (3, .ref 72), (4, .int i)]) hG [0, 1, 2, 3, 4, 5, 6] (by decide) rfl dL_law_1371 kk) ?_
  refine And.imp_right (fun kk => z_aload_n (pc := 1373) hG 4 rfl rfl dL_law_1373 kk) ?_
  replace h := zbind h
  obtain ⟨v3, hv3, h⟩ := h
  refine And.imp_right (fun kk => z_cvI (A' := A0 + (C / 64 - v2.2.2.2.2 / 64)) (B' := B0 + 2 * (C - v2.2.2.2.2)) (nc := 0) (ns := 0) (rest := []) hG [] zc_X11 DL_42 (tX11_thrown hl0  v2.2 hv3) zy_X11_thrown ⟨w1595, w1596⟩ w1594 dL_law_1374 rfl (Nat.le_of_ble_eq_true rfl) (by omega) (by omega) rfl (Nat.le_of_ble_eq_true rfl) rfl kk) ?_
  refine And.imp_right (fun kk => z_iload (pc := 1377) hG 1 rfl dL_law_1377 kk) ?_
  by_cases hc : v3 = v1.1
  rotate_left
  · replace h := zif_f hc h
    cases h
  replace h := zif_t hc h
  refine And.imp_right (fun kk => z_icmp_eq (pc := 1379) (tgt := 1384) hG dL_law_1379 rfl (fun _ => kk) (fun q => (q hc).elim)) ?_
  refine And.imp_right (fun kk => z_iload (pc := 1384) hG 1 rfl dL_law_1384 kk) ?_
  refine zbr (c := v1.1 = 0) (fun hc => ?_) (fun hc => ?_) (fun k1 k2 => z_if_ne (pc := 1386) (tgt := 1401) hG dL_law_1386 rfl k2 k1)
  · replace h := zif_t hc h
    refine And.imp_right (fun kk => z_aload_n (pc := 1389) hG 5 rfl rfl dL_law_1389 kk) ?_
    refine And.imp_right (fun kk => z_iconst (pc := 1390) hG kc_0 dL_law_1390 kk) ?_
    refine And.imp_right (fun kk => z_lald (pc := 1391) hG DL_72 (zin_in (by decide)) dL_law_1391 kk) ?_
    refine And.imp_right (fun kk => z_iload (pc := 1392) hG 0 rfl dL_law_1392 kk) ?_
    refine And.imp_right (fun kk => z_i2l (pc := 1394) hG dL_law_1394 kk) ?_
    refine And.imp_right (fun kk => z_lcmp (pc := 1395) hG dL_law_1395 kk) ?_
    by_cases hc : (lg_cmp (v2.2.2.1 72 (0 : Int32).toNatClampNeg) v2.1.toInt64) = 0
    rotate_left
    · replace h := zif_f hc h
      cases h
    replace h := zif_t hc h
    refine And.imp_right (fun kk => z_if_eq (pc := 1396) (tgt := 1401) hG dL_law_1396 rfl (fun _ => kk) (fun q => (q hc).elim)) ?_
    refine And.imp_right (fun kk => z_goto (pc := 1401) (tgt := 3017) hG dL_law_1401 rfl kk) ?_
    obtain rfl := Option.some.inj h
    refine And.imp_right (fun kk => z_sub (ls' := [(0, .ref 950), (1, .ref 0), (2, .ref 42), (3, .ref 72), (4, .int i)]) [2, 3, 4, 5, 6] rfl kk) ?_
    exact kf
  · replace h := zif_f hc h
    refine And.imp_right (fun kk => z_goto (pc := 1401) (tgt := 3017) hG dL_law_1401 rfl kk) ?_
    obtain rfl := Option.some.inj h
    refine And.imp_right (fun kk => z_sub (ls' := [(0, .ref 950), (1, .ref 0), (2, .ref 42), (3, .ref 72), (4, .int i)]) [2, 3, 4, 5, 6] rfl kk) ?_
    exact kf
noncomputable def nS_21 (a : Nat → Int32) (g : zS) : Option zS :=
  (nL_likely (a 1) (a 2) g).bind fun v1 => zchk (decide (v1.2.2.2.2 = g.2.2.2)) ((nX11_likely (a 1) (a 2) v1.2).bind fun v2 => zchk (decide (v2.2.2.2.2 = v1.2.2.2.2)) ((nX11_thrown v2.2).bind fun v3 => if v3 = v1.1 then (if v1.1 = 0 then (if (lg_cmp (v2.2.2.1 72 (0 : Int32).toNatClampNeg) v2.1.toInt64) = 0 then (some v2.2) else (none)) else (some v2.2)) else (none)))
set_option maxHeartbeats 1000000 in
theorem tS_21 {x : zXx} {i : Int32} {a : Nat → Int32} (hl0 : (zl0 x).flags = flags0) (hG : zG x cL_law 7 RL ret) (hPx : zPx x.2.2.2.2.1) (hS : zScr x i a) {A0 B0 C : Nat} (g : zS) {r : zS} (h : nS_21 a g = some r) (kf : zgr r C ∧ zK x 66 3017 [(0, .ref 950), (1, .ref 0), (2, .ref 42), (3, .ref 72), (4, .int i)] [] zD r (A0 + (C / 64 - r.2.2.2 / 64)) (B0 + 2 * (C - r.2.2.2))) : zgr g C ∧ zK x 66 1404 [(0, .ref 950), (1, .ref 0), (2, .ref 42), (3, .ref 72), (4, .int i)] [] zD g (A0 + 3 + (C / 64 - g.2.2.2 / 64)) (B0 + 18 + 2 * (C - g.2.2.2)) := by
  unfold nS_21 at h
  refine And.imp_right (fun kk => z_aload_n (pc := 1404) hG 1 rfl rfl dL_law_1404 kk) ?_
  refine And.imp_right (fun kk => z_aload_n (pc := 1405) hG 0 rfl rfl dL_law_1405 kk) ?_
  refine And.imp_right (fun kk => z_iload (pc := 1406) hG 4 rfl dL_law_1406 kk) ?_
  refine And.imp_right (fun kk => z_iconst (pc := 1408) hG kc_1 dL_law_1408 kk) ?_
  refine And.imp_right (fun kk => z_iadd (pc := 1409) hG dL_law_1409 kk) ?_
  refine And.imp_right (fun kk => z_scr (pc := 1410) hG hS 1 (by decide) rfl dL_law_1410 kk) ?_
  refine And.imp_right (fun kk => z_aload_n (pc := 1411) hG 0 rfl rfl dL_law_1411 kk) ?_
  refine And.imp_right (fun kk => z_iload (pc := 1412) hG 4 rfl dL_law_1412 kk) ?_
  refine And.imp_right (fun kk => z_iconst (pc := 1414) hG kc_2 dL_law_1414 kk) ?_
  refine And.imp_right (fun kk => z_iadd (pc := 1415) hG dL_law_1415 kk) ?_
  refine And.imp_right (fun kk => z_scr (pc := 1416) hG hS 2 (by decide) rfl dL_law_1416 kk) ?_
  refine And.imp_right (fun kk => z_aload_n (pc := 1417) hG 3 rfl rfl dL_law_1417 kk) ?_
  replace h := zbind h
  obtain ⟨v1, hv1, h⟩ := h
  replace h := zchk_some h
  obtain ⟨hqv1, h⟩ := h
  refine And.imp_right (fun kk => z_csH (A' := A0 + (C / 64 - g.2.2.2 / 64)) (B' := B0 + 2 * (C - g.2.2.2)) (rest := []) hG hPx [.ref 0, .int (a 1), .int (a 2), .ref 72] (tL_likely hl0 (a 1) (a 2) g hv1) zyH_likely w1087 w1086 dL_law_1418 rfl (Nat.le_of_ble_eq_true rfl) (by omega) (by omega) rfl (Nat.le_of_ble_eq_true rfl) rfl kk) ?_
  refine zpc (of_decide_eq_true hqv1) ?_
  refine And.imp_right (fun kk => z_istore (pc := 1421) (ls' := [(5, .int v1.1), (0, .ref 950), (1, .ref 0), (2, .ref 42), (3, .ref 72), (4, .int i)]) hG [0, 1, 2, 3, 4, 5] (by decide) rfl dL_law_1421 kk) ?_
  refine And.imp_right (fun kk => z_aload_n (pc := 1423) hG 3 rfl rfl dL_law_1423 kk) ?_
  refine And.imp_right (fun kk => z_aload_n (pc := 1424) hG 1 rfl rfl dL_law_1424 kk) ?_
  refine And.imp_right (fun kk => z_iload (pc := 1425) hG 5 rfl dL_law_1425 kk) ?_
  refine And.imp_right (fun kk => z_iconst (pc := 1427) hG kc_1 dL_law_1427 kk) ?_
  refine And.imp_right (fun kk => z_iadd (pc := 1428) hG dL_law_1428 kk) ?_
  refine And.imp_right (fun kk => z_scr (pc := 1429) hG hS 1 (by decide) rfl dL_law_1429 kk) ?_
  refine And.imp_right (fun kk => z_aload_n (pc := 1430) hG 1 rfl rfl dL_law_1430 kk) ?_
  refine And.imp_right (fun kk => z_iload (pc := 1431) hG 5 rfl dL_law_1431 kk) ?_
  refine And.imp_right (fun kk => z_iconst (pc := 1433) hG kc_2 dL_law_1433 kk) ?_
  refine And.imp_right (fun kk => z_iadd (pc := 1434) hG dL_law_1434 kk) ?_
  refine And.imp_right (fun kk => z_scr (pc := 1435) hG hS 2 (by decide) rfl dL_law_1435 kk) ?_
  replace h := zbind h
  obtain ⟨v2, hv2, h⟩ := h
  replace h := zchk_some h
  obtain ⟨hqv2, h⟩ := h
  refine And.imp_right (fun kk => z_cvI (A' := A0 + (C / 64 - v1.2.2.2.2 / 64)) (B' := B0 + 2 * (C - v1.2.2.2.2)) (nc := 0) (ns := 0) (rest := []) hG [.int (a 1), .int (a 2)] zc_X11 DL_42 (tX11_likely hl0 (a 1) (a 2) v1.2 hv2) zy_X11_likely ⟨w1856, w1857⟩ w1855 dL_law_1436 rfl (Nat.le_of_ble_eq_true rfl) (by omega) (by omega) rfl (Nat.le_of_ble_eq_true rfl) rfl kk) ?_
  refine zpc (of_decide_eq_true hqv2) ?_
  refine And.imp_right (fun kk => z_istore (pc := 1439) (ls' := [(6, .int v2.1), (5, .int v1.1), (0, .ref 950), (1, .ref 0), (2, .ref 42), (3, .ref 72), (4, .int i)]) hG [0, 1, 2, 3, 4, 5, 6] (by decide) rfl dL_law_1439 kk) ?_
  refine And.imp_right (fun kk => z_aload_n (pc := 1441) hG 4 rfl rfl dL_law_1441 kk) ?_
  replace h := zbind h
  obtain ⟨v3, hv3, h⟩ := h
  refine And.imp_right (fun kk => z_cvI (A' := A0 + (C / 64 - v2.2.2.2.2 / 64)) (B' := B0 + 2 * (C - v2.2.2.2.2)) (nc := 0) (ns := 0) (rest := []) hG [] zc_X11 DL_42 (tX11_thrown hl0  v2.2 hv3) zy_X11_thrown ⟨w1595, w1596⟩ w1594 dL_law_1442 rfl (Nat.le_of_ble_eq_true rfl) (by omega) (by omega) rfl (Nat.le_of_ble_eq_true rfl) rfl kk) ?_
  refine And.imp_right (fun kk => z_iload (pc := 1445) hG 1 rfl dL_law_1445 kk) ?_
  by_cases hc : v3 = v1.1
  rotate_left
  · replace h := zif_f hc h
    cases h
  replace h := zif_t hc h
  refine And.imp_right (fun kk => z_icmp_eq (pc := 1447) (tgt := 1452) hG dL_law_1447 rfl (fun _ => kk) (fun q => (q hc).elim)) ?_
  refine And.imp_right (fun kk => z_iload (pc := 1452) hG 1 rfl dL_law_1452 kk) ?_
  refine zbr (c := v1.1 = 0) (fun hc => ?_) (fun hc => ?_) (fun k1 k2 => z_if_ne (pc := 1454) (tgt := 1469) hG dL_law_1454 rfl k2 k1)
  · replace h := zif_t hc h
    refine And.imp_right (fun kk => z_aload_n (pc := 1457) hG 5 rfl rfl dL_law_1457 kk) ?_
    refine And.imp_right (fun kk => z_iconst (pc := 1458) hG kc_0 dL_law_1458 kk) ?_
    refine And.imp_right (fun kk => z_lald (pc := 1459) hG DL_72 (zin_in (by decide)) dL_law_1459 kk) ?_
    refine And.imp_right (fun kk => z_iload (pc := 1460) hG 0 rfl dL_law_1460 kk) ?_
    refine And.imp_right (fun kk => z_i2l (pc := 1462) hG dL_law_1462 kk) ?_
    refine And.imp_right (fun kk => z_lcmp (pc := 1463) hG dL_law_1463 kk) ?_
    by_cases hc : (lg_cmp (v2.2.2.1 72 (0 : Int32).toNatClampNeg) v2.1.toInt64) = 0
    rotate_left
    · replace h := zif_f hc h
      cases h
    replace h := zif_t hc h
    refine And.imp_right (fun kk => z_if_eq (pc := 1464) (tgt := 1469) hG dL_law_1464 rfl (fun _ => kk) (fun q => (q hc).elim)) ?_
    refine And.imp_right (fun kk => z_goto (pc := 1469) (tgt := 3017) hG dL_law_1469 rfl kk) ?_
    obtain rfl := Option.some.inj h
    refine And.imp_right (fun kk => z_sub (ls' := [(0, .ref 950), (1, .ref 0), (2, .ref 42), (3, .ref 72), (4, .int i)]) [2, 3, 4, 5, 6] rfl kk) ?_
    exact kf
  · replace h := zif_f hc h
    refine And.imp_right (fun kk => z_goto (pc := 1469) (tgt := 3017) hG dL_law_1469 rfl kk) ?_
    obtain rfl := Option.some.inj h
    refine And.imp_right (fun kk => z_sub (ls' := [(0, .ref 950), (1, .ref 0), (2, .ref 42), (3, .ref 72), (4, .int i)]) [2, 3, 4, 5, 6] rfl kk) ?_
    exact kf
noncomputable def nS_22 (a : Nat → Int32) (g : zS) : Option zS :=
  (nL_blame (a 1) g).bind fun v1 => zchk (decide (g.2.2.2 ≤ v1.2.2.2.2)) ((nX11_blame (a 1) v1.2).bind fun v2 => zchk (decide (v2.2.2.2.2 = v1.2.2.2.2)) ((nX11_thrown v2.2).bind fun v3 => if v3 = v1.1 then (if v1.1 = 0 then (if (lg_cmp (v2.2.2.1 72 (0 : Int32).toNatClampNeg) v2.1.toInt64) = 0 then (some v2.2) else (none)) else (some v2.2)) else (none)))
set_option maxHeartbeats 1000000 in
theorem tS_22 {x : zXx} {i : Int32} {a : Nat → Int32} (hl0 : (zl0 x).flags = flags0) (hG : zG x cL_law 7 RL ret) (hPx : zPx x.2.2.2.2.1) (hS : zScr x i a) {A0 B0 C : Nat} (g : zS) {r : zS} (h : nS_22 a g = some r) (kf : zgr r C ∧ zK x 66 3017 [(0, .ref 950), (1, .ref 0), (2, .ref 42), (3, .ref 72), (4, .int i)] [] zD r (A0 + (C / 64 - r.2.2.2 / 64)) (B0 + 2 * (C - r.2.2.2))) : zgr g C ∧ zK x 66 1472 [(0, .ref 950), (1, .ref 0), (2, .ref 42), (3, .ref 72), (4, .int i)] [] zD g (A0 + 2 + (C / 64 - g.2.2.2 / 64)) (B0 + 12 + 2 * (C - g.2.2.2)) := by
  unfold nS_22 at h
  refine And.imp_right (fun kk => z_aload_n (pc := 1472) hG 1 rfl rfl dL_law_1472 kk) ?_
  refine And.imp_right (fun kk => z_aload_n (pc := 1473) hG 0 rfl rfl dL_law_1473 kk) ?_
  refine And.imp_right (fun kk => z_iload (pc := 1474) hG 4 rfl dL_law_1474 kk) ?_
  refine And.imp_right (fun kk => z_iconst (pc := 1476) hG kc_1 dL_law_1476 kk) ?_
  refine And.imp_right (fun kk => z_iadd (pc := 1477) hG dL_law_1477 kk) ?_
  refine And.imp_right (fun kk => z_scr (pc := 1478) hG hS 1 (by decide) rfl dL_law_1478 kk) ?_
  refine And.imp_right (fun kk => z_aload_n (pc := 1479) hG 3 rfl rfl dL_law_1479 kk) ?_
  replace h := zbind h
  obtain ⟨v1, hv1, h⟩ := h
  replace h := zchk_some h
  obtain ⟨hqv1, h⟩ := h
  replace hqv1 := of_decide_eq_true hqv1
  refine And.elim (fun hb kk => ⟨Nat.le_trans hqv1 hb, z_csH (A' := A0 + (C / 64 - v1.2.2.2.2 / 64)) (B' := B0 + 2 * (C - v1.2.2.2.2)) (rest := []) hG hPx [.ref 0, .int (a 1), .ref 72] (tL_blame hl0 (a 1) g hv1) zyH_blame w1112 w1111 dL_law_1480 rfl (Nat.le_of_ble_eq_true rfl) (by have hb : v1.2.2.2.2 ≤ C := hb; omega) (by have hb : v1.2.2.2.2 ≤ C := hb; omega) rfl (Nat.le_of_ble_eq_true rfl) rfl kk⟩) ?_
  refine And.imp_right (fun kk => z_istore (pc := 1483) (ls' := [(5, .int v1.1), (0, .ref 950), (1, .ref 0), (2, .ref 42), (3, .ref 72), (4, .int i)]) hG [0, 1, 2, 3, 4, 5] (by decide) rfl dL_law_1483 kk) ?_
  refine And.imp_right (fun kk => z_aload_n (pc := 1485) hG 3 rfl rfl dL_law_1485 kk) ?_
  refine And.imp_right (fun kk => z_aload_n (pc := 1486) hG 1 rfl rfl dL_law_1486 kk) ?_
  refine And.imp_right (fun kk => z_iload (pc := 1487) hG 5 rfl dL_law_1487 kk) ?_
  refine And.imp_right (fun kk => z_iconst (pc := 1489) hG kc_1 dL_law_1489 kk) ?_
  refine And.imp_right (fun kk => z_iadd (pc := 1490) hG dL_law_1490 kk) ?_
  refine And.imp_right (fun kk => z_scr (pc := 1491) hG hS 1 (by decide) rfl dL_law_1491 kk) ?_
  replace h := zbind h
  obtain ⟨v2, hv2, h⟩ := h
  replace h := zchk_some h
  obtain ⟨hqv2, h⟩ := h
  refine And.imp_right (fun kk => z_cvI (A' := A0 + (C / 64 - v1.2.2.2.2 / 64)) (B' := B0 + 2 * (C - v1.2.2.2.2)) (nc := 0) (ns := 0) (rest := []) hG [.int (a 1)] zc_X11 DL_42 (tX11_blame hl0 (a 1) v1.2 hv2) zy_X11_blame ⟨w1868, w1869⟩ w1867 dL_law_1492 rfl (Nat.le_of_ble_eq_true rfl) (by omega) (by omega) rfl (Nat.le_of_ble_eq_true rfl) rfl kk) ?_
  refine zpc (of_decide_eq_true hqv2) ?_
  refine And.imp_right (fun kk => z_istore (pc := 1495) (ls' := [(6, .int v2.1), (5, .int v1.1), (0, .ref 950), (1, .ref 0), (2, .ref 42), (3, .ref 72), (4, .int i)]) hG [0, 1, 2, 3, 4, 5, 6] (by decide) rfl dL_law_1495 kk) ?_
  refine And.imp_right (fun kk => z_aload_n (pc := 1497) hG 4 rfl rfl dL_law_1497 kk) ?_
  replace h := zbind h
  obtain ⟨v3, hv3, h⟩ := h
  refine And.imp_right (fun kk => z_cvI (A' := A0 + (C / 64 - v2.2.2.2.2 / 64)) (B' := B0 + 2 * (C - v2.2.2.2.2)) (nc := 0) (ns := 0) (rest := []) hG [] zc_X11 DL_42 (tX11_thrown hl0  v2.2 hv3) zy_X11_thrown ⟨w1595, w1596⟩ w1594 dL_law_1498 rfl (Nat.le_of_ble_eq_true rfl) (by omega) (by omega) rfl (Nat.le_of_ble_eq_true rfl) rfl kk) ?_
  refine And.imp_right (fun kk => z_iload (pc := 1501) hG 1 rfl dL_law_1501 kk) ?_
  by_cases hc : v3 = v1.1
  rotate_left
  · replace h := zif_f hc h
    cases h
  replace h := zif_t hc h
  refine And.imp_right (fun kk => z_icmp_eq (pc := 1503) (tgt := 1508) hG dL_law_1503 rfl (fun _ => kk) (fun q => (q hc).elim)) ?_
  refine And.imp_right (fun kk => z_iload (pc := 1508) hG 1 rfl dL_law_1508 kk) ?_
  refine zbr (c := v1.1 = 0) (fun hc => ?_) (fun hc => ?_) (fun k1 k2 => z_if_ne (pc := 1510) (tgt := 1525) hG dL_law_1510 rfl k2 k1)
  · replace h := zif_t hc h
    refine And.imp_right (fun kk => z_aload_n (pc := 1513) hG 5 rfl rfl dL_law_1513 kk) ?_
    refine And.imp_right (fun kk => z_iconst (pc := 1514) hG kc_0 dL_law_1514 kk) ?_
    refine And.imp_right (fun kk => z_lald (pc := 1515) hG DL_72 (zin_in (by decide)) dL_law_1515 kk) ?_
    refine And.imp_right (fun kk => z_iload (pc := 1516) hG 0 rfl dL_law_1516 kk) ?_
    refine And.imp_right (fun kk => z_i2l (pc := 1518) hG dL_law_1518 kk) ?_
    refine And.imp_right (fun kk => z_lcmp (pc := 1519) hG dL_law_1519 kk) ?_
    by_cases hc : (lg_cmp (v2.2.2.1 72 (0 : Int32).toNatClampNeg) v2.1.toInt64) = 0
    rotate_left
    · replace h := zif_f hc h
      cases h
    replace h := zif_t hc h
    refine And.imp_right (fun kk => z_if_eq (pc := 1520) (tgt := 1525) hG dL_law_1520 rfl (fun _ => kk) (fun q => (q hc).elim)) ?_
    refine And.imp_right (fun kk => z_goto (pc := 1525) (tgt := 3017) hG dL_law_1525 rfl kk) ?_
    obtain rfl := Option.some.inj h
    refine And.imp_right (fun kk => z_sub (ls' := [(0, .ref 950), (1, .ref 0), (2, .ref 42), (3, .ref 72), (4, .int i)]) [2, 3, 4, 5, 6] rfl kk) ?_
    exact kf
  · replace h := zif_f hc h
    refine And.imp_right (fun kk => z_goto (pc := 1525) (tgt := 3017) hG dL_law_1525 rfl kk) ?_
    obtain rfl := Option.some.inj h
    refine And.imp_right (fun kk => z_sub (ls' := [(0, .ref 950), (1, .ref 0), (2, .ref 42), (3, .ref 72), (4, .int i)]) [2, 3, 4, 5, 6] rfl kk) ?_
    exact kf
noncomputable def nS_23 (a : Nat → Int32) (g : zS) : Option zS :=
  (nL_mends (a 1) (a 2) g).bind fun v1 => zchk (decide (v1.2.2.2.2 = g.2.2.2)) ((nX11_mends (a 1) (a 2) v1.2).bind fun v2 => zchk (decide (v2.2.2.2.2 = v1.2.2.2.2)) ((nX11_thrown v2.2).bind fun v3 => if v3 = v1.1 then (if v1.1 = 0 then (if v2.1 = 0 then (if (lg_cmp (v2.2.2.1 72 (0 : Int32).toNatClampNeg) (0 : Int64)) = 0 then (some v2.2) else (none)) else (if (lg_cmp (v2.2.2.1 72 (0 : Int32).toNatClampNeg) (1 : Int64)) = 0 then (some v2.2) else (none))) else (some v2.2)) else (none)))
set_option maxHeartbeats 1000000 in
theorem tS_23 {x : zXx} {i : Int32} {a : Nat → Int32} (hl0 : (zl0 x).flags = flags0) (hG : zG x cL_law 7 RL ret) (hPx : zPx x.2.2.2.2.1) (hS : zScr x i a) {A0 B0 C : Nat} (g : zS) {r : zS} (h : nS_23 a g = some r) (kf : zgr r C ∧ zK x 66 3017 [(0, .ref 950), (1, .ref 0), (2, .ref 42), (3, .ref 72), (4, .int i)] [] zD r (A0 + (C / 64 - r.2.2.2 / 64)) (B0 + 2 * (C - r.2.2.2))) : zgr g C ∧ zK x 66 1528 [(0, .ref 950), (1, .ref 0), (2, .ref 42), (3, .ref 72), (4, .int i)] [] zD g (A0 + 2 + (C / 64 - g.2.2.2 / 64)) (B0 + 12 + 2 * (C - g.2.2.2)) := by
  unfold nS_23 at h
  refine And.imp_right (fun kk => z_aload_n (pc := 1528) hG 1 rfl rfl dL_law_1528 kk) ?_
  refine And.imp_right (fun kk => z_aload_n (pc := 1529) hG 0 rfl rfl dL_law_1529 kk) ?_
  refine And.imp_right (fun kk => z_iload (pc := 1530) hG 4 rfl dL_law_1530 kk) ?_
  refine And.imp_right (fun kk => z_iconst (pc := 1532) hG kc_1 dL_law_1532 kk) ?_
  refine And.imp_right (fun kk => z_iadd (pc := 1533) hG dL_law_1533 kk) ?_
  refine And.imp_right (fun kk => z_scr (pc := 1534) hG hS 1 (by decide) rfl dL_law_1534 kk) ?_
  refine And.imp_right (fun kk => z_aload_n (pc := 1535) hG 0 rfl rfl dL_law_1535 kk) ?_
  refine And.imp_right (fun kk => z_iload (pc := 1536) hG 4 rfl dL_law_1536 kk) ?_
  refine And.imp_right (fun kk => z_iconst (pc := 1538) hG kc_2 dL_law_1538 kk) ?_
  refine And.imp_right (fun kk => z_iadd (pc := 1539) hG dL_law_1539 kk) ?_
  refine And.imp_right (fun kk => z_scr (pc := 1540) hG hS 2 (by decide) rfl dL_law_1540 kk) ?_
  refine And.imp_right (fun kk => z_aload_n (pc := 1541) hG 3 rfl rfl dL_law_1541 kk) ?_
  replace h := zbind h
  obtain ⟨v1, hv1, h⟩ := h
  replace h := zchk_some h
  obtain ⟨hqv1, h⟩ := h
  refine And.imp_right (fun kk => z_csH (A' := A0 + (C / 64 - g.2.2.2 / 64)) (B' := B0 + 2 * (C - g.2.2.2)) (rest := []) hG hPx [.ref 0, .int (a 1), .int (a 2), .ref 72] (tL_mends hl0 (a 1) (a 2) g hv1) zyH_mends w1127 w1126 dL_law_1542 rfl (Nat.le_of_ble_eq_true rfl) (by omega) (by omega) rfl (Nat.le_of_ble_eq_true rfl) rfl kk) ?_
  refine zpc (of_decide_eq_true hqv1) ?_
  refine And.imp_right (fun kk => z_istore (pc := 1545) (ls' := [(5, .int v1.1), (0, .ref 950), (1, .ref 0), (2, .ref 42), (3, .ref 72), (4, .int i)]) hG [0, 1, 2, 3, 4, 5] (by decide) rfl dL_law_1545 kk) ?_
  refine And.imp_right (fun kk => z_aload_n (pc := 1547) hG 3 rfl rfl dL_law_1547 kk) ?_
  refine And.imp_right (fun kk => z_aload_n (pc := 1548) hG 1 rfl rfl dL_law_1548 kk) ?_
  refine And.imp_right (fun kk => z_iload (pc := 1549) hG 5 rfl dL_law_1549 kk) ?_
  refine And.imp_right (fun kk => z_iconst (pc := 1551) hG kc_1 dL_law_1551 kk) ?_
  refine And.imp_right (fun kk => z_iadd (pc := 1552) hG dL_law_1552 kk) ?_
  refine And.imp_right (fun kk => z_scr (pc := 1553) hG hS 1 (by decide) rfl dL_law_1553 kk) ?_
  refine And.imp_right (fun kk => z_aload_n (pc := 1554) hG 1 rfl rfl dL_law_1554 kk) ?_
  refine And.imp_right (fun kk => z_iload (pc := 1555) hG 5 rfl dL_law_1555 kk) ?_
  refine And.imp_right (fun kk => z_iconst (pc := 1557) hG kc_2 dL_law_1557 kk) ?_
  refine And.imp_right (fun kk => z_iadd (pc := 1558) hG dL_law_1558 kk) ?_
  refine And.imp_right (fun kk => z_scr (pc := 1559) hG hS 2 (by decide) rfl dL_law_1559 kk) ?_
  replace h := zbind h
  obtain ⟨v2, hv2, h⟩ := h
  replace h := zchk_some h
  obtain ⟨hqv2, h⟩ := h
  refine And.imp_right (fun kk => z_cvI (A' := A0 + (C / 64 - v1.2.2.2.2 / 64)) (B' := B0 + 2 * (C - v1.2.2.2.2)) (nc := 0) (ns := 0) (rest := []) hG [.int (a 1), .int (a 2)] zc_X11 DL_42 (tX11_mends hl0 (a 1) (a 2) v1.2 hv2) zy_X11_mends ⟨w1872, w1873⟩ w1871 dL_law_1560 rfl (Nat.le_of_ble_eq_true rfl) (by omega) (by omega) rfl (Nat.le_of_ble_eq_true rfl) rfl kk) ?_
  refine zpc (of_decide_eq_true hqv2) ?_
  refine And.imp_right (fun kk => z_istore (pc := 1563) (ls' := [(6, .int v2.1), (5, .int v1.1), (0, .ref 950), (1, .ref 0), (2, .ref 42), (3, .ref 72), (4, .int i)]) hG [0, 1, 2, 3, 4, 5, 6] (by decide) rfl dL_law_1563 kk) ?_
  refine And.imp_right (fun kk => z_aload_n (pc := 1565) hG 4 rfl rfl dL_law_1565 kk) ?_
  replace h := zbind h
  obtain ⟨v3, hv3, h⟩ := h
  refine And.imp_right (fun kk => z_cvI (A' := A0 + (C / 64 - v2.2.2.2.2 / 64)) (B' := B0 + 2 * (C - v2.2.2.2.2)) (nc := 0) (ns := 0) (rest := []) hG [] zc_X11 DL_42 (tX11_thrown hl0  v2.2 hv3) zy_X11_thrown ⟨w1595, w1596⟩ w1594 dL_law_1566 rfl (Nat.le_of_ble_eq_true rfl) (by omega) (by omega) rfl (Nat.le_of_ble_eq_true rfl) rfl kk) ?_
  refine And.imp_right (fun kk => z_iload (pc := 1569) hG 1 rfl dL_law_1569 kk) ?_
  by_cases hc : v3 = v1.1
  rotate_left
  · replace h := zif_f hc h
    cases h
  replace h := zif_t hc h
  refine And.imp_right (fun kk => z_icmp_eq (pc := 1571) (tgt := 1576) hG dL_law_1571 rfl (fun _ => kk) (fun q => (q hc).elim)) ?_
  refine And.imp_right (fun kk => z_iload (pc := 1576) hG 1 rfl dL_law_1576 kk) ?_
  refine zbr (c := v1.1 = 0) (fun hc => ?_) (fun hc => ?_) (fun k1 k2 => z_if_ne (pc := 1578) (tgt := 1600) hG dL_law_1578 rfl k2 k1)
  · replace h := zif_t hc h
    refine And.imp_right (fun kk => z_aload_n (pc := 1581) hG 5 rfl rfl dL_law_1581 kk) ?_
    refine And.imp_right (fun kk => z_iconst (pc := 1582) hG kc_0 dL_law_1582 kk) ?_
    refine And.imp_right (fun kk => z_lald (pc := 1583) hG DL_72 (zin_in (by decide)) dL_law_1583 kk) ?_
    refine And.imp_right (fun kk => z_iload (pc := 1584) hG 0 rfl dL_law_1584 kk) ?_
    refine zbr (c := v2.1 = 0) (fun hc => ?_) (fun hc => ?_) (fun k1 k2 => z_if_eq (pc := 1586) (tgt := 1593) hG dL_law_1586 rfl k1 k2)
    · replace h := zif_t hc h
      refine And.imp_right (fun kk => z_lconst (pc := 1593) hG kl_0 dL_law_1593 kk) ?_
      refine And.imp_right (fun kk => z_lcmp (pc := 1594) hG dL_law_1594 kk) ?_
      by_cases hc : (lg_cmp (v2.2.2.1 72 (0 : Int32).toNatClampNeg) (0 : Int64)) = 0
      rotate_left
      · replace h := zif_f hc h
        cases h
      replace h := zif_t hc h
      refine And.imp_right (fun kk => z_if_eq (pc := 1595) (tgt := 1600) hG dL_law_1595 rfl (fun _ => kk) (fun q => (q hc).elim)) ?_
      refine And.imp_right (fun kk => z_goto (pc := 1600) (tgt := 3017) hG dL_law_1600 rfl kk) ?_
      obtain rfl := Option.some.inj h
      refine And.imp_right (fun kk => z_sub (ls' := [(0, .ref 950), (1, .ref 0), (2, .ref 42), (3, .ref 72), (4, .int i)]) [2, 3, 4, 5, 6] rfl kk) ?_
      exact kf
    · replace h := zif_f hc h
      refine And.imp_right (fun kk => z_lconst (pc := 1589) hG kl_1 dL_law_1589 kk) ?_
      refine And.imp_right (fun kk => z_goto (pc := 1590) (tgt := 1594) hG dL_law_1590 rfl kk) ?_
      refine And.imp_right (fun kk => z_lcmp (pc := 1594) hG dL_law_1594 kk) ?_
      by_cases hc : (lg_cmp (v2.2.2.1 72 (0 : Int32).toNatClampNeg) (1 : Int64)) = 0
      rotate_left
      · replace h := zif_f hc h
        cases h
      replace h := zif_t hc h
      refine And.imp_right (fun kk => z_if_eq (pc := 1595) (tgt := 1600) hG dL_law_1595 rfl (fun _ => kk) (fun q => (q hc).elim)) ?_
      refine And.imp_right (fun kk => z_goto (pc := 1600) (tgt := 3017) hG dL_law_1600 rfl kk) ?_
      obtain rfl := Option.some.inj h
      refine And.imp_right (fun kk => z_sub (ls' := [(0, .ref 950), (1, .ref 0), (2, .ref 42), (3, .ref 72), (4, .int i)]) [2, 3, 4, 5, 6] rfl kk) ?_
      exact kf
  · replace h := zif_f hc h
    refine And.imp_right (fun kk => z_goto (pc := 1600) (tgt := 3017) hG dL_law_1600 rfl kk) ?_
    obtain rfl := Option.some.inj h
    refine And.imp_right (fun kk => z_sub (ls' := [(0, .ref 950), (1, .ref 0), (2, .ref 42), (3, .ref 72), (4, .int i)]) [2, 3, 4, 5, 6] rfl kk) ?_
    exact kf
noncomputable def nS_24 (a : Nat → Int32) (g : zS) : Option zS :=
  (nL_ways (a 1) (a 2) g).bind fun v1 => zchk (decide (v1.2.2.2.2 = g.2.2.2)) ((nX11_ways (a 1) (a 2) v1.2).bind fun v2 => zchk (decide (v2.2.2.2.2 = v1.2.2.2.2)) ((nX11_thrown v2.2).bind fun v3 => if v3 = v1.1 then (if v1.1 = 0 then (if (lg_cmp (v2.2.2.1 72 (0 : Int32).toNatClampNeg) v2.1.toInt64) = 0 then (some v2.2) else (none)) else (some v2.2)) else (none)))
set_option maxHeartbeats 1000000 in
theorem tS_24 {x : zXx} {i : Int32} {a : Nat → Int32} (hl0 : (zl0 x).flags = flags0) (hG : zG x cL_law 7 RL ret) (hPx : zPx x.2.2.2.2.1) (hS : zScr x i a) {A0 B0 C : Nat} (g : zS) {r : zS} (h : nS_24 a g = some r) (kf : zgr r C ∧ zK x 66 3017 [(0, .ref 950), (1, .ref 0), (2, .ref 42), (3, .ref 72), (4, .int i)] [] zD r (A0 + (C / 64 - r.2.2.2 / 64)) (B0 + 2 * (C - r.2.2.2))) : zgr g C ∧ zK x 66 1603 [(0, .ref 950), (1, .ref 0), (2, .ref 42), (3, .ref 72), (4, .int i)] [] zD g (A0 + 2 + (C / 64 - g.2.2.2 / 64)) (B0 + 12 + 2 * (C - g.2.2.2)) := by
  unfold nS_24 at h
  refine And.imp_right (fun kk => z_aload_n (pc := 1603) hG 1 rfl rfl dL_law_1603 kk) ?_
  refine And.imp_right (fun kk => z_aload_n (pc := 1604) hG 0 rfl rfl dL_law_1604 kk) ?_
  refine And.imp_right (fun kk => z_iload (pc := 1605) hG 4 rfl dL_law_1605 kk) ?_
  refine And.imp_right (fun kk => z_iconst (pc := 1607) hG kc_1 dL_law_1607 kk) ?_
  refine And.imp_right (fun kk => z_iadd (pc := 1608) hG dL_law_1608 kk) ?_
  refine And.imp_right (fun kk => z_scr (pc := 1609) hG hS 1 (by decide) rfl dL_law_1609 kk) ?_
  refine And.imp_right (fun kk => z_aload_n (pc := 1610) hG 0 rfl rfl dL_law_1610 kk) ?_
  refine And.imp_right (fun kk => z_iload (pc := 1611) hG 4 rfl dL_law_1611 kk) ?_
  refine And.imp_right (fun kk => z_iconst (pc := 1613) hG kc_2 dL_law_1613 kk) ?_
  refine And.imp_right (fun kk => z_iadd (pc := 1614) hG dL_law_1614 kk) ?_
  refine And.imp_right (fun kk => z_scr (pc := 1615) hG hS 2 (by decide) rfl dL_law_1615 kk) ?_
  refine And.imp_right (fun kk => z_aload_n (pc := 1616) hG 3 rfl rfl dL_law_1616 kk) ?_
  replace h := zbind h
  obtain ⟨v1, hv1, h⟩ := h
  replace h := zchk_some h
  obtain ⟨hqv1, h⟩ := h
  refine And.imp_right (fun kk => z_csH (A' := A0 + (C / 64 - g.2.2.2 / 64)) (B' := B0 + 2 * (C - g.2.2.2)) (rest := []) hG hPx [.ref 0, .int (a 1), .int (a 2), .ref 72] (tL_ways hl0 (a 1) (a 2) g hv1) zyH_ways w1139 w1138 dL_law_1617 rfl (Nat.le_of_ble_eq_true rfl) (by omega) (by omega) rfl (Nat.le_of_ble_eq_true rfl) rfl kk) ?_
  refine zpc (of_decide_eq_true hqv1) ?_
  refine And.imp_right (fun kk => z_istore (pc := 1620) (ls' := [(5, .int v1.1), (0, .ref 950), (1, .ref 0), (2, .ref 42), (3, .ref 72), (4, .int i)]) hG [0, 1, 2, 3, 4, 5] (by decide) rfl dL_law_1620 kk) ?_
  refine And.imp_right (fun kk => z_aload_n (pc := 1622) hG 3 rfl rfl dL_law_1622 kk) ?_
  refine And.imp_right (fun kk => z_aload_n (pc := 1623) hG 1 rfl rfl dL_law_1623 kk) ?_
  refine And.imp_right (fun kk => z_iload (pc := 1624) hG 5 rfl dL_law_1624 kk) ?_
  refine And.imp_right (fun kk => z_iconst (pc := 1626) hG kc_1 dL_law_1626 kk) ?_
  refine And.imp_right (fun kk => z_iadd (pc := 1627) hG dL_law_1627 kk) ?_
  refine And.imp_right (fun kk => z_scr (pc := 1628) hG hS 1 (by decide) rfl dL_law_1628 kk) ?_
  refine And.imp_right (fun kk => z_aload_n (pc := 1629) hG 1 rfl rfl dL_law_1629 kk) ?_
  refine And.imp_right (fun kk => z_iload (pc := 1630) hG 5 rfl dL_law_1630 kk) ?_
  refine And.imp_right (fun kk => z_iconst (pc := 1632) hG kc_2 dL_law_1632 kk) ?_
  refine And.imp_right (fun kk => z_iadd (pc := 1633) hG dL_law_1633 kk) ?_
  refine And.imp_right (fun kk => z_scr (pc := 1634) hG hS 2 (by decide) rfl dL_law_1634 kk) ?_
  replace h := zbind h
  obtain ⟨v2, hv2, h⟩ := h
  replace h := zchk_some h
  obtain ⟨hqv2, h⟩ := h
  refine And.imp_right (fun kk => z_cvI (A' := A0 + (C / 64 - v1.2.2.2.2 / 64)) (B' := B0 + 2 * (C - v1.2.2.2.2)) (nc := 0) (ns := 0) (rest := []) hG [.int (a 1), .int (a 2)] zc_X11 DL_42 (tX11_ways hl0 (a 1) (a 2) v1.2 hv2) zy_X11_ways ⟨w1888, w1889⟩ w1887 dL_law_1635 rfl (Nat.le_of_ble_eq_true rfl) (by omega) (by omega) rfl (Nat.le_of_ble_eq_true rfl) rfl kk) ?_
  refine zpc (of_decide_eq_true hqv2) ?_
  refine And.imp_right (fun kk => z_istore (pc := 1638) (ls' := [(6, .int v2.1), (5, .int v1.1), (0, .ref 950), (1, .ref 0), (2, .ref 42), (3, .ref 72), (4, .int i)]) hG [0, 1, 2, 3, 4, 5, 6] (by decide) rfl dL_law_1638 kk) ?_
  refine And.imp_right (fun kk => z_aload_n (pc := 1640) hG 4 rfl rfl dL_law_1640 kk) ?_
  replace h := zbind h
  obtain ⟨v3, hv3, h⟩ := h
  refine And.imp_right (fun kk => z_cvI (A' := A0 + (C / 64 - v2.2.2.2.2 / 64)) (B' := B0 + 2 * (C - v2.2.2.2.2)) (nc := 0) (ns := 0) (rest := []) hG [] zc_X11 DL_42 (tX11_thrown hl0  v2.2 hv3) zy_X11_thrown ⟨w1595, w1596⟩ w1594 dL_law_1641 rfl (Nat.le_of_ble_eq_true rfl) (by omega) (by omega) rfl (Nat.le_of_ble_eq_true rfl) rfl kk) ?_
  refine And.imp_right (fun kk => z_iload (pc := 1644) hG 1 rfl dL_law_1644 kk) ?_
  by_cases hc : v3 = v1.1
  rotate_left
  · replace h := zif_f hc h
    cases h
  replace h := zif_t hc h
  refine And.imp_right (fun kk => z_icmp_eq (pc := 1646) (tgt := 1651) hG dL_law_1646 rfl (fun _ => kk) (fun q => (q hc).elim)) ?_
  refine And.imp_right (fun kk => z_iload (pc := 1651) hG 1 rfl dL_law_1651 kk) ?_
  refine zbr (c := v1.1 = 0) (fun hc => ?_) (fun hc => ?_) (fun k1 k2 => z_if_ne (pc := 1653) (tgt := 1668) hG dL_law_1653 rfl k2 k1)
  · replace h := zif_t hc h
    refine And.imp_right (fun kk => z_aload_n (pc := 1656) hG 5 rfl rfl dL_law_1656 kk) ?_
    refine And.imp_right (fun kk => z_iconst (pc := 1657) hG kc_0 dL_law_1657 kk) ?_
    refine And.imp_right (fun kk => z_lald (pc := 1658) hG DL_72 (zin_in (by decide)) dL_law_1658 kk) ?_
    refine And.imp_right (fun kk => z_iload (pc := 1659) hG 0 rfl dL_law_1659 kk) ?_
    refine And.imp_right (fun kk => z_i2l (pc := 1661) hG dL_law_1661 kk) ?_
    refine And.imp_right (fun kk => z_lcmp (pc := 1662) hG dL_law_1662 kk) ?_
    by_cases hc : (lg_cmp (v2.2.2.1 72 (0 : Int32).toNatClampNeg) v2.1.toInt64) = 0
    rotate_left
    · replace h := zif_f hc h
      cases h
    replace h := zif_t hc h
    refine And.imp_right (fun kk => z_if_eq (pc := 1663) (tgt := 1668) hG dL_law_1663 rfl (fun _ => kk) (fun q => (q hc).elim)) ?_
    refine And.imp_right (fun kk => z_goto (pc := 1668) (tgt := 3017) hG dL_law_1668 rfl kk) ?_
    obtain rfl := Option.some.inj h
    refine And.imp_right (fun kk => z_sub (ls' := [(0, .ref 950), (1, .ref 0), (2, .ref 42), (3, .ref 72), (4, .int i)]) [2, 3, 4, 5, 6] rfl kk) ?_
    exact kf
  · replace h := zif_f hc h
    refine And.imp_right (fun kk => z_goto (pc := 1668) (tgt := 3017) hG dL_law_1668 rfl kk) ?_
    obtain rfl := Option.some.inj h
    refine And.imp_right (fun kk => z_sub (ls' := [(0, .ref 950), (1, .ref 0), (2, .ref 42), (3, .ref 72), (4, .int i)]) [2, 3, 4, 5, 6] rfl kk) ?_
    exact kf
noncomputable def nS_25 (a : Nat → Int32) (g : zS) : Option zS :=
  (nL_least (a 1) (a 2) g).bind fun v1 => zchk (decide (v1.2.2.2.2 = g.2.2.2)) ((nX11_least (a 1) (a 2) v1.2).bind fun v2 => zchk (decide (v2.2.2.2.2 = v1.2.2.2.2)) ((nX11_thrown v2.2).bind fun v3 => if v3 = v1.1 then (if v1.1 = 0 then (if (lg_cmp (v2.2.2.1 72 (0 : Int32).toNatClampNeg) v2.1.toInt64) = 0 then (some v2.2) else (none)) else (some v2.2)) else (none)))
set_option maxHeartbeats 1000000 in
theorem tS_25 {x : zXx} {i : Int32} {a : Nat → Int32} (hl0 : (zl0 x).flags = flags0) (hG : zG x cL_law 7 RL ret) (hPx : zPx x.2.2.2.2.1) (hS : zScr x i a) {A0 B0 C : Nat} (g : zS) {r : zS} (h : nS_25 a g = some r) (kf : zgr r C ∧ zK x 66 3017 [(0, .ref 950), (1, .ref 0), (2, .ref 42), (3, .ref 72), (4, .int i)] [] zD r (A0 + (C / 64 - r.2.2.2 / 64)) (B0 + 2 * (C - r.2.2.2))) : zgr g C ∧ zK x 66 1671 [(0, .ref 950), (1, .ref 0), (2, .ref 42), (3, .ref 72), (4, .int i)] [] zD g (A0 + 2 + (C / 64 - g.2.2.2 / 64)) (B0 + 12 + 2 * (C - g.2.2.2)) := by
  unfold nS_25 at h
  refine And.imp_right (fun kk => z_aload_n (pc := 1671) hG 1 rfl rfl dL_law_1671 kk) ?_
  refine And.imp_right (fun kk => z_aload_n (pc := 1672) hG 0 rfl rfl dL_law_1672 kk) ?_
  refine And.imp_right (fun kk => z_iload (pc := 1673) hG 4 rfl dL_law_1673 kk) ?_
  refine And.imp_right (fun kk => z_iconst (pc := 1675) hG kc_1 dL_law_1675 kk) ?_
  refine And.imp_right (fun kk => z_iadd (pc := 1676) hG dL_law_1676 kk) ?_
  refine And.imp_right (fun kk => z_scr (pc := 1677) hG hS 1 (by decide) rfl dL_law_1677 kk) ?_
  refine And.imp_right (fun kk => z_aload_n (pc := 1678) hG 0 rfl rfl dL_law_1678 kk) ?_
  refine And.imp_right (fun kk => z_iload (pc := 1679) hG 4 rfl dL_law_1679 kk) ?_
  refine And.imp_right (fun kk => z_iconst (pc := 1681) hG kc_2 dL_law_1681 kk) ?_
  refine And.imp_right (fun kk => z_iadd (pc := 1682) hG dL_law_1682 kk) ?_
  refine And.imp_right (fun kk => z_scr (pc := 1683) hG hS 2 (by decide) rfl dL_law_1683 kk) ?_
  refine And.imp_right (fun kk => z_aload_n (pc := 1684) hG 3 rfl rfl dL_law_1684 kk) ?_
  replace h := zbind h
  obtain ⟨v1, hv1, h⟩ := h
  replace h := zchk_some h
  obtain ⟨hqv1, h⟩ := h
  refine And.imp_right (fun kk => z_csH (A' := A0 + (C / 64 - g.2.2.2 / 64)) (B' := B0 + 2 * (C - g.2.2.2)) (rest := []) hG hPx [.ref 0, .int (a 1), .int (a 2), .ref 72] (tL_least hl0 (a 1) (a 2) g hv1) zyH_least w1150 w1149 dL_law_1685 rfl (Nat.le_of_ble_eq_true rfl) (by omega) (by omega) rfl (Nat.le_of_ble_eq_true rfl) rfl kk) ?_
  refine zpc (of_decide_eq_true hqv1) ?_
  refine And.imp_right (fun kk => z_istore (pc := 1688) (ls' := [(5, .int v1.1), (0, .ref 950), (1, .ref 0), (2, .ref 42), (3, .ref 72), (4, .int i)]) hG [0, 1, 2, 3, 4, 5] (by decide) rfl dL_law_1688 kk) ?_
  refine And.imp_right (fun kk => z_aload_n (pc := 1690) hG 3 rfl rfl dL_law_1690 kk) ?_
  refine And.imp_right (fun kk => z_aload_n (pc := 1691) hG 1 rfl rfl dL_law_1691 kk) ?_
  refine And.imp_right (fun kk => z_iload (pc := 1692) hG 5 rfl dL_law_1692 kk) ?_
  refine And.imp_right (fun kk => z_iconst (pc := 1694) hG kc_1 dL_law_1694 kk) ?_
  refine And.imp_right (fun kk => z_iadd (pc := 1695) hG dL_law_1695 kk) ?_
  refine And.imp_right (fun kk => z_scr (pc := 1696) hG hS 1 (by decide) rfl dL_law_1696 kk) ?_
  refine And.imp_right (fun kk => z_aload_n (pc := 1697) hG 1 rfl rfl dL_law_1697 kk) ?_
  refine And.imp_right (fun kk => z_iload (pc := 1698) hG 5 rfl dL_law_1698 kk) ?_
  refine And.imp_right (fun kk => z_iconst (pc := 1700) hG kc_2 dL_law_1700 kk) ?_
  refine And.imp_right (fun kk => z_iadd (pc := 1701) hG dL_law_1701 kk) ?_
  refine And.imp_right (fun kk => z_scr (pc := 1702) hG hS 2 (by decide) rfl dL_law_1702 kk) ?_
  replace h := zbind h
  obtain ⟨v2, hv2, h⟩ := h
  replace h := zchk_some h
  obtain ⟨hqv2, h⟩ := h
  refine And.imp_right (fun kk => z_cvI (A' := A0 + (C / 64 - v1.2.2.2.2 / 64)) (B' := B0 + 2 * (C - v1.2.2.2.2)) (nc := 0) (ns := 0) (rest := []) hG [.int (a 1), .int (a 2)] zc_X11 DL_42 (tX11_least hl0 (a 1) (a 2) v1.2 hv2) zy_X11_least ⟨w1892, w1893⟩ w1891 dL_law_1703 rfl (Nat.le_of_ble_eq_true rfl) (by omega) (by omega) rfl (Nat.le_of_ble_eq_true rfl) rfl kk) ?_
  refine zpc (of_decide_eq_true hqv2) ?_
  refine And.imp_right (fun kk => z_istore (pc := 1706) (ls' := [(6, .int v2.1), (5, .int v1.1), (0, .ref 950), (1, .ref 0), (2, .ref 42), (3, .ref 72), (4, .int i)]) hG [0, 1, 2, 3, 4, 5, 6] (by decide) rfl dL_law_1706 kk) ?_
  refine And.imp_right (fun kk => z_aload_n (pc := 1708) hG 4 rfl rfl dL_law_1708 kk) ?_
  replace h := zbind h
  obtain ⟨v3, hv3, h⟩ := h
  refine And.imp_right (fun kk => z_cvI (A' := A0 + (C / 64 - v2.2.2.2.2 / 64)) (B' := B0 + 2 * (C - v2.2.2.2.2)) (nc := 0) (ns := 0) (rest := []) hG [] zc_X11 DL_42 (tX11_thrown hl0  v2.2 hv3) zy_X11_thrown ⟨w1595, w1596⟩ w1594 dL_law_1709 rfl (Nat.le_of_ble_eq_true rfl) (by omega) (by omega) rfl (Nat.le_of_ble_eq_true rfl) rfl kk) ?_
  refine And.imp_right (fun kk => z_iload (pc := 1712) hG 1 rfl dL_law_1712 kk) ?_
  by_cases hc : v3 = v1.1
  rotate_left
  · replace h := zif_f hc h
    cases h
  replace h := zif_t hc h
  refine And.imp_right (fun kk => z_icmp_eq (pc := 1714) (tgt := 1719) hG dL_law_1714 rfl (fun _ => kk) (fun q => (q hc).elim)) ?_
  refine And.imp_right (fun kk => z_iload (pc := 1719) hG 1 rfl dL_law_1719 kk) ?_
  refine zbr (c := v1.1 = 0) (fun hc => ?_) (fun hc => ?_) (fun k1 k2 => z_if_ne (pc := 1721) (tgt := 1736) hG dL_law_1721 rfl k2 k1)
  · replace h := zif_t hc h
    refine And.imp_right (fun kk => z_aload_n (pc := 1724) hG 5 rfl rfl dL_law_1724 kk) ?_
    refine And.imp_right (fun kk => z_iconst (pc := 1725) hG kc_0 dL_law_1725 kk) ?_
    refine And.imp_right (fun kk => z_lald (pc := 1726) hG DL_72 (zin_in (by decide)) dL_law_1726 kk) ?_
    refine And.imp_right (fun kk => z_iload (pc := 1727) hG 0 rfl dL_law_1727 kk) ?_
    refine And.imp_right (fun kk => z_i2l (pc := 1729) hG dL_law_1729 kk) ?_
    refine And.imp_right (fun kk => z_lcmp (pc := 1730) hG dL_law_1730 kk) ?_
    by_cases hc : (lg_cmp (v2.2.2.1 72 (0 : Int32).toNatClampNeg) v2.1.toInt64) = 0
    rotate_left
    · replace h := zif_f hc h
      cases h
    replace h := zif_t hc h
    refine And.imp_right (fun kk => z_if_eq (pc := 1731) (tgt := 1736) hG dL_law_1731 rfl (fun _ => kk) (fun q => (q hc).elim)) ?_
    refine And.imp_right (fun kk => z_goto (pc := 1736) (tgt := 3017) hG dL_law_1736 rfl kk) ?_
    obtain rfl := Option.some.inj h
    refine And.imp_right (fun kk => z_sub (ls' := [(0, .ref 950), (1, .ref 0), (2, .ref 42), (3, .ref 72), (4, .int i)]) [2, 3, 4, 5, 6] rfl kk) ?_
    exact kf
  · replace h := zif_f hc h
    refine And.imp_right (fun kk => z_goto (pc := 1736) (tgt := 3017) hG dL_law_1736 rfl kk) ?_
    obtain rfl := Option.some.inj h
    refine And.imp_right (fun kk => z_sub (ls' := [(0, .ref 950), (1, .ref 0), (2, .ref 42), (3, .ref 72), (4, .int i)]) [2, 3, 4, 5, 6] rfl kk) ?_
    exact kf
noncomputable def nS_26 (a : Nat → Int32) (g : zS) : Option zS :=
  (nL_leastOf (a 1) (a 2) g).bind fun v1 => zchk (decide (v1.2.2.2.2 = g.2.2.2)) ((nX11_leastOf (a 1) (a 2) v1.2).bind fun v2 => zchk (decide (v2.2.2.2.2 = v1.2.2.2.2)) ((nX11_thrown v2.2).bind fun v3 => if v3 = v1.1 then (if v1.1 = 0 then (if (lg_cmp (v2.2.2.1 72 (0 : Int32).toNatClampNeg) v2.1.toInt64) = 0 then (some v2.2) else (none)) else (some v2.2)) else (none)))
set_option maxHeartbeats 1000000 in
theorem tS_26 {x : zXx} {i : Int32} {a : Nat → Int32} (hl0 : (zl0 x).flags = flags0) (hG : zG x cL_law 7 RL ret) (hPx : zPx x.2.2.2.2.1) (hS : zScr x i a) {A0 B0 C : Nat} (g : zS) {r : zS} (h : nS_26 a g = some r) (kf : zgr r C ∧ zK x 66 3017 [(0, .ref 950), (1, .ref 0), (2, .ref 42), (3, .ref 72), (4, .int i)] [] zD r (A0 + (C / 64 - r.2.2.2 / 64)) (B0 + 2 * (C - r.2.2.2))) : zgr g C ∧ zK x 66 1739 [(0, .ref 950), (1, .ref 0), (2, .ref 42), (3, .ref 72), (4, .int i)] [] zD g (A0 + 1 + (C / 64 - g.2.2.2 / 64)) (B0 + 6 + 2 * (C - g.2.2.2)) := by
  unfold nS_26 at h
  refine And.imp_right (fun kk => z_aload_n (pc := 1739) hG 1 rfl rfl dL_law_1739 kk) ?_
  refine And.imp_right (fun kk => z_aload_n (pc := 1740) hG 0 rfl rfl dL_law_1740 kk) ?_
  refine And.imp_right (fun kk => z_iload (pc := 1741) hG 4 rfl dL_law_1741 kk) ?_
  refine And.imp_right (fun kk => z_iconst (pc := 1743) hG kc_1 dL_law_1743 kk) ?_
  refine And.imp_right (fun kk => z_iadd (pc := 1744) hG dL_law_1744 kk) ?_
  refine And.imp_right (fun kk => z_scr (pc := 1745) hG hS 1 (by decide) rfl dL_law_1745 kk) ?_
  refine And.imp_right (fun kk => z_aload_n (pc := 1746) hG 0 rfl rfl dL_law_1746 kk) ?_
  refine And.imp_right (fun kk => z_iload (pc := 1747) hG 4 rfl dL_law_1747 kk) ?_
  refine And.imp_right (fun kk => z_iconst (pc := 1749) hG kc_2 dL_law_1749 kk) ?_
  refine And.imp_right (fun kk => z_iadd (pc := 1750) hG dL_law_1750 kk) ?_
  refine And.imp_right (fun kk => z_scr (pc := 1751) hG hS 2 (by decide) rfl dL_law_1751 kk) ?_
  refine And.imp_right (fun kk => z_aload_n (pc := 1752) hG 3 rfl rfl dL_law_1752 kk) ?_
  replace h := zbind h
  obtain ⟨v1, hv1, h⟩ := h
  replace h := zchk_some h
  obtain ⟨hqv1, h⟩ := h
  refine And.imp_right (fun kk => z_csH (A' := A0 + (C / 64 - g.2.2.2 / 64)) (B' := B0 + 2 * (C - g.2.2.2)) (rest := []) hG hPx [.ref 0, .int (a 1), .int (a 2), .ref 72] (tL_leastOf hl0 (a 1) (a 2) g hv1) zyH_leastOf w1164 w1163 dL_law_1753 rfl (Nat.le_of_ble_eq_true rfl) (by omega) (by omega) rfl (Nat.le_of_ble_eq_true rfl) rfl kk) ?_
  refine zpc (of_decide_eq_true hqv1) ?_
  refine And.imp_right (fun kk => z_istore (pc := 1756) (ls' := [(5, .int v1.1), (0, .ref 950), (1, .ref 0), (2, .ref 42), (3, .ref 72), (4, .int i)]) hG [0, 1, 2, 3, 4, 5] (by decide) rfl dL_law_1756 kk) ?_
  refine And.imp_right (fun kk => z_aload_n (pc := 1758) hG 3 rfl rfl dL_law_1758 kk) ?_
  refine And.imp_right (fun kk => z_aload_n (pc := 1759) hG 1 rfl rfl dL_law_1759 kk) ?_
  refine And.imp_right (fun kk => z_iload (pc := 1760) hG 5 rfl dL_law_1760 kk) ?_
  refine And.imp_right (fun kk => z_iconst (pc := 1762) hG kc_1 dL_law_1762 kk) ?_
  refine And.imp_right (fun kk => z_iadd (pc := 1763) hG dL_law_1763 kk) ?_
  refine And.imp_right (fun kk => z_scr (pc := 1764) hG hS 1 (by decide) rfl dL_law_1764 kk) ?_
  refine And.imp_right (fun kk => z_aload_n (pc := 1765) hG 1 rfl rfl dL_law_1765 kk) ?_
  refine And.imp_right (fun kk => z_iload (pc := 1766) hG 5 rfl dL_law_1766 kk) ?_
  refine And.imp_right (fun kk => z_iconst (pc := 1768) hG kc_2 dL_law_1768 kk) ?_
  refine And.imp_right (fun kk => z_iadd (pc := 1769) hG dL_law_1769 kk) ?_
  refine And.imp_right (fun kk => z_scr (pc := 1770) hG hS 2 (by decide) rfl dL_law_1770 kk) ?_
  replace h := zbind h
  obtain ⟨v2, hv2, h⟩ := h
  replace h := zchk_some h
  obtain ⟨hqv2, h⟩ := h
  refine And.imp_right (fun kk => z_cvI (A' := A0 + (C / 64 - v1.2.2.2.2 / 64)) (B' := B0 + 2 * (C - v1.2.2.2.2)) (nc := 0) (ns := 0) (rest := []) hG [.int (a 1), .int (a 2)] zc_X11 DL_42 (tX11_leastOf hl0 (a 1) (a 2) v1.2 hv2) zy_X11_leastOf ⟨w1904, w1905⟩ w1903 dL_law_1771 rfl (Nat.le_of_ble_eq_true rfl) (by omega) (by omega) rfl (Nat.le_of_ble_eq_true rfl) rfl kk) ?_
  refine zpc (of_decide_eq_true hqv2) ?_
  refine And.imp_right (fun kk => z_istore (pc := 1774) (ls' := [(6, .int v2.1), (5, .int v1.1), (0, .ref 950), (1, .ref 0), (2, .ref 42), (3, .ref 72), (4, .int i)]) hG [0, 1, 2, 3, 4, 5, 6] (by decide) rfl dL_law_1774 kk) ?_
  refine And.imp_right (fun kk => z_aload_n (pc := 1776) hG 4 rfl rfl dL_law_1776 kk) ?_
  replace h := zbind h
  obtain ⟨v3, hv3, h⟩ := h
  refine And.imp_right (fun kk => z_cvI (A' := A0 + (C / 64 - v2.2.2.2.2 / 64)) (B' := B0 + 2 * (C - v2.2.2.2.2)) (nc := 0) (ns := 0) (rest := []) hG [] zc_X11 DL_42 (tX11_thrown hl0  v2.2 hv3) zy_X11_thrown ⟨w1595, w1596⟩ w1594 dL_law_1777 rfl (Nat.le_of_ble_eq_true rfl) (by omega) (by omega) rfl (Nat.le_of_ble_eq_true rfl) rfl kk) ?_
  refine And.imp_right (fun kk => z_iload (pc := 1780) hG 1 rfl dL_law_1780 kk) ?_
  by_cases hc : v3 = v1.1
  rotate_left
  · replace h := zif_f hc h
    cases h
  replace h := zif_t hc h
  refine And.imp_right (fun kk => z_icmp_eq (pc := 1782) (tgt := 1787) hG dL_law_1782 rfl (fun _ => kk) (fun q => (q hc).elim)) ?_
  refine And.imp_right (fun kk => z_iload (pc := 1787) hG 1 rfl dL_law_1787 kk) ?_
  refine zbr (c := v1.1 = 0) (fun hc => ?_) (fun hc => ?_) (fun k1 k2 => z_if_ne (pc := 1789) (tgt := 1804) hG dL_law_1789 rfl k2 k1)
  · replace h := zif_t hc h
    refine And.imp_right (fun kk => z_aload_n (pc := 1792) hG 5 rfl rfl dL_law_1792 kk) ?_
    refine And.imp_right (fun kk => z_iconst (pc := 1793) hG kc_0 dL_law_1793 kk) ?_
    refine And.imp_right (fun kk => z_lald (pc := 1794) hG DL_72 (zin_in (by decide)) dL_law_1794 kk) ?_
    refine And.imp_right (fun kk => z_iload (pc := 1795) hG 0 rfl dL_law_1795 kk) ?_
    refine And.imp_right (fun kk => z_i2l (pc := 1797) hG dL_law_1797 kk) ?_
    refine And.imp_right (fun kk => z_lcmp (pc := 1798) hG dL_law_1798 kk) ?_
    by_cases hc : (lg_cmp (v2.2.2.1 72 (0 : Int32).toNatClampNeg) v2.1.toInt64) = 0
    rotate_left
    · replace h := zif_f hc h
      cases h
    replace h := zif_t hc h
    refine And.imp_right (fun kk => z_if_eq (pc := 1799) (tgt := 1804) hG dL_law_1799 rfl (fun _ => kk) (fun q => (q hc).elim)) ?_
    refine And.imp_right (fun kk => z_goto (pc := 1804) (tgt := 3017) hG dL_law_1804 rfl kk) ?_
    obtain rfl := Option.some.inj h
    refine And.imp_right (fun kk => z_sub (ls' := [(0, .ref 950), (1, .ref 0), (2, .ref 42), (3, .ref 72), (4, .int i)]) [2, 3, 4, 5, 6] rfl kk) ?_
    exact kf
  · replace h := zif_f hc h
    refine And.imp_right (fun kk => z_goto (pc := 1804) (tgt := 3017) hG dL_law_1804 rfl kk) ?_
    obtain rfl := Option.some.inj h
    refine And.imp_right (fun kk => z_sub (ls' := [(0, .ref 950), (1, .ref 0), (2, .ref 42), (3, .ref 72), (4, .int i)]) [2, 3, 4, 5, 6] rfl kk) ?_
    exact kf
noncomputable def nS_27 (a : Nat → Int32) (g : zS) : Option zS :=
  (nL_values (a 1) (a 2) (a 3) g).bind fun v1 => zchk (decide (v1.2.2.2.2 = g.2.2.2)) ((nX11_values (a 1) (a 2) (a 3) v1.2).bind fun v2 => zchk (decide (v2.2.2.2.2 = v1.2.2.2.2)) ((nX11_thrown v2.2).bind fun v3 => if v3 = v1.1 then (if v1.1 = 0 then (if (lg_cmp (v2.2.2.1 72 (0 : Int32).toNatClampNeg) v2.1.toInt64) = 0 then (some v2.2) else (none)) else (some v2.2)) else (none)))
set_option maxHeartbeats 1000000 in
theorem tS_27 {x : zXx} {i : Int32} {a : Nat → Int32} (hl0 : (zl0 x).flags = flags0) (hG : zG x cL_law 7 RL ret) (hPx : zPx x.2.2.2.2.1) (hS : zScr x i a) {A0 B0 C : Nat} (g : zS) {r : zS} (h : nS_27 a g = some r) (kf : zgr r C ∧ zK x 66 3017 [(0, .ref 950), (1, .ref 0), (2, .ref 42), (3, .ref 72), (4, .int i)] [] zD r (A0 + (C / 64 - r.2.2.2 / 64)) (B0 + 2 * (C - r.2.2.2))) : zgr g C ∧ zK x 66 1807 [(0, .ref 950), (1, .ref 0), (2, .ref 42), (3, .ref 72), (4, .int i)] [] zD g (A0 + 3 + (C / 64 - g.2.2.2 / 64)) (B0 + 18 + 2 * (C - g.2.2.2)) := by
  unfold nS_27 at h
  refine And.imp_right (fun kk => z_aload_n (pc := 1807) hG 1 rfl rfl dL_law_1807 kk) ?_
  refine And.imp_right (fun kk => z_aload_n (pc := 1808) hG 0 rfl rfl dL_law_1808 kk) ?_
  refine And.imp_right (fun kk => z_iload (pc := 1809) hG 4 rfl dL_law_1809 kk) ?_
  refine And.imp_right (fun kk => z_iconst (pc := 1811) hG kc_1 dL_law_1811 kk) ?_
  refine And.imp_right (fun kk => z_iadd (pc := 1812) hG dL_law_1812 kk) ?_
  refine And.imp_right (fun kk => z_scr (pc := 1813) hG hS 1 (by decide) rfl dL_law_1813 kk) ?_
  refine And.imp_right (fun kk => z_aload_n (pc := 1814) hG 0 rfl rfl dL_law_1814 kk) ?_
  refine And.imp_right (fun kk => z_iload (pc := 1815) hG 4 rfl dL_law_1815 kk) ?_
  refine And.imp_right (fun kk => z_iconst (pc := 1817) hG kc_2 dL_law_1817 kk) ?_
  refine And.imp_right (fun kk => z_iadd (pc := 1818) hG dL_law_1818 kk) ?_
  refine And.imp_right (fun kk => z_scr (pc := 1819) hG hS 2 (by decide) rfl dL_law_1819 kk) ?_
  refine And.imp_right (fun kk => z_aload_n (pc := 1820) hG 0 rfl rfl dL_law_1820 kk) ?_
  refine And.imp_right (fun kk => z_iload (pc := 1821) hG 4 rfl dL_law_1821 kk) ?_
  refine And.imp_right (fun kk => z_iconst (pc := 1823) hG kc_3 dL_law_1823 kk) ?_
  refine And.imp_right (fun kk => z_iadd (pc := 1824) hG dL_law_1824 kk) ?_
  refine And.imp_right (fun kk => z_scr (pc := 1825) hG hS 3 (by decide) rfl dL_law_1825 kk) ?_
  refine And.imp_right (fun kk => z_aload_n (pc := 1826) hG 3 rfl rfl dL_law_1826 kk) ?_
  replace h := zbind h
  obtain ⟨v1, hv1, h⟩ := h
  replace h := zchk_some h
  obtain ⟨hqv1, h⟩ := h
  refine And.imp_right (fun kk => z_csH (A' := A0 + (C / 64 - g.2.2.2 / 64)) (B' := B0 + 2 * (C - g.2.2.2)) (rest := []) hG hPx [.ref 0, .int (a 1), .int (a 2), .int (a 3), .ref 72] (tL_values hl0 (a 1) (a 2) (a 3) g hv1) zyH_values w1175 w1174 dL_law_1827 rfl (Nat.le_of_ble_eq_true rfl) (by omega) (by omega) rfl (Nat.le_of_ble_eq_true rfl) rfl kk) ?_
  refine zpc (of_decide_eq_true hqv1) ?_
  refine And.imp_right (fun kk => z_istore (pc := 1830) (ls' := [(5, .int v1.1), (0, .ref 950), (1, .ref 0), (2, .ref 42), (3, .ref 72), (4, .int i)]) hG [0, 1, 2, 3, 4, 5] (by decide) rfl dL_law_1830 kk) ?_
  refine And.imp_right (fun kk => z_aload_n (pc := 1832) hG 3 rfl rfl dL_law_1832 kk) ?_
  refine And.imp_right (fun kk => z_aload_n (pc := 1833) hG 1 rfl rfl dL_law_1833 kk) ?_
  refine And.imp_right (fun kk => z_iload (pc := 1834) hG 5 rfl dL_law_1834 kk) ?_
  refine And.imp_right (fun kk => z_iconst (pc := 1836) hG kc_1 dL_law_1836 kk) ?_
  refine And.imp_right (fun kk => z_iadd (pc := 1837) hG dL_law_1837 kk) ?_
  refine And.imp_right (fun kk => z_scr (pc := 1838) hG hS 1 (by decide) rfl dL_law_1838 kk) ?_
  refine And.imp_right (fun kk => z_aload_n (pc := 1839) hG 1 rfl rfl dL_law_1839 kk) ?_
  refine And.imp_right (fun kk => z_iload (pc := 1840) hG 5 rfl dL_law_1840 kk) ?_
  refine And.imp_right (fun kk => z_iconst (pc := 1842) hG kc_2 dL_law_1842 kk) ?_
  refine And.imp_right (fun kk => z_iadd (pc := 1843) hG dL_law_1843 kk) ?_
  refine And.imp_right (fun kk => z_scr (pc := 1844) hG hS 2 (by decide) rfl dL_law_1844 kk) ?_
  refine And.imp_right (fun kk => z_aload_n (pc := 1845) hG 1 rfl rfl dL_law_1845 kk) ?_
  refine And.imp_right (fun kk => z_iload (pc := 1846) hG 5 rfl dL_law_1846 kk) ?_
  refine And.imp_right (fun kk => z_iconst (pc := 1848) hG kc_3 dL_law_1848 kk) ?_
  refine And.imp_right (fun kk => z_iadd (pc := 1849) hG dL_law_1849 kk) ?_
  refine And.imp_right (fun kk => z_scr (pc := 1850) hG hS 3 (by decide) rfl dL_law_1850 kk) ?_
  replace h := zbind h
  obtain ⟨v2, hv2, h⟩ := h
  replace h := zchk_some h
  obtain ⟨hqv2, h⟩ := h
  refine And.imp_right (fun kk => z_cvI (A' := A0 + (C / 64 - v1.2.2.2.2 / 64)) (B' := B0 + 2 * (C - v1.2.2.2.2)) (nc := 0) (ns := 0) (rest := []) hG [.int (a 1), .int (a 2), .int (a 3)] zc_X11 DL_42 (tX11_values hl0 (a 1) (a 2) (a 3) v1.2 hv2) zy_X11_values ⟨w1908, w1909⟩ w1907 dL_law_1851 rfl (Nat.le_of_ble_eq_true rfl) (by omega) (by omega) rfl (Nat.le_of_ble_eq_true rfl) rfl kk) ?_
  refine zpc (of_decide_eq_true hqv2) ?_
  refine And.imp_right (fun kk => z_istore (pc := 1854) (ls' := [(6, .int v2.1), (5, .int v1.1), (0, .ref 950), (1, .ref 0), (2, .ref 42), (3, .ref 72), (4, .int i)]) hG [0, 1, 2, 3, 4, 5, 6] (by decide) rfl dL_law_1854 kk) ?_
  refine And.imp_right (fun kk => z_aload_n (pc := 1856) hG 4 rfl rfl dL_law_1856 kk) ?_
  replace h := zbind h
  obtain ⟨v3, hv3, h⟩ := h
  refine And.imp_right (fun kk => z_cvI (A' := A0 + (C / 64 - v2.2.2.2.2 / 64)) (B' := B0 + 2 * (C - v2.2.2.2.2)) (nc := 0) (ns := 0) (rest := []) hG [] zc_X11 DL_42 (tX11_thrown hl0  v2.2 hv3) zy_X11_thrown ⟨w1595, w1596⟩ w1594 dL_law_1857 rfl (Nat.le_of_ble_eq_true rfl) (by omega) (by omega) rfl (Nat.le_of_ble_eq_true rfl) rfl kk) ?_
  refine And.imp_right (fun kk => z_iload (pc := 1860) hG 1 rfl dL_law_1860 kk) ?_
  by_cases hc : v3 = v1.1
  rotate_left
  · replace h := zif_f hc h
    cases h
  replace h := zif_t hc h
  refine And.imp_right (fun kk => z_icmp_eq (pc := 1862) (tgt := 1867) hG dL_law_1862 rfl (fun _ => kk) (fun q => (q hc).elim)) ?_
  refine And.imp_right (fun kk => z_iload (pc := 1867) hG 1 rfl dL_law_1867 kk) ?_
  refine zbr (c := v1.1 = 0) (fun hc => ?_) (fun hc => ?_) (fun k1 k2 => z_if_ne (pc := 1869) (tgt := 1884) hG dL_law_1869 rfl k2 k1)
  · replace h := zif_t hc h
    refine And.imp_right (fun kk => z_aload_n (pc := 1872) hG 5 rfl rfl dL_law_1872 kk) ?_
    refine And.imp_right (fun kk => z_iconst (pc := 1873) hG kc_0 dL_law_1873 kk) ?_
    refine And.imp_right (fun kk => z_lald (pc := 1874) hG DL_72 (zin_in (by decide)) dL_law_1874 kk) ?_
    refine And.imp_right (fun kk => z_iload (pc := 1875) hG 0 rfl dL_law_1875 kk) ?_
    refine And.imp_right (fun kk => z_i2l (pc := 1877) hG dL_law_1877 kk) ?_
    refine And.imp_right (fun kk => z_lcmp (pc := 1878) hG dL_law_1878 kk) ?_
    by_cases hc : (lg_cmp (v2.2.2.1 72 (0 : Int32).toNatClampNeg) v2.1.toInt64) = 0
    rotate_left
    · replace h := zif_f hc h
      cases h
    replace h := zif_t hc h
    refine And.imp_right (fun kk => z_if_eq (pc := 1879) (tgt := 1884) hG dL_law_1879 rfl (fun _ => kk) (fun q => (q hc).elim)) ?_
    refine And.imp_right (fun kk => z_goto (pc := 1884) (tgt := 3017) hG dL_law_1884 rfl kk) ?_
    obtain rfl := Option.some.inj h
    refine And.imp_right (fun kk => z_sub (ls' := [(0, .ref 950), (1, .ref 0), (2, .ref 42), (3, .ref 72), (4, .int i)]) [2, 3, 4, 5, 6] rfl kk) ?_
    exact kf
  · replace h := zif_f hc h
    refine And.imp_right (fun kk => z_goto (pc := 1884) (tgt := 3017) hG dL_law_1884 rfl kk) ?_
    obtain rfl := Option.some.inj h
    refine And.imp_right (fun kk => z_sub (ls' := [(0, .ref 950), (1, .ref 0), (2, .ref 42), (3, .ref 72), (4, .int i)]) [2, 3, 4, 5, 6] rfl kk) ?_
    exact kf
noncomputable def nS_28 (a : Nat → Int32) (g : zS) : Option zS :=
  (nL_forced (a 1) g).bind fun v1 => zchk (decide (v1.2.2.2.2 = g.2.2.2)) ((nX11_forced (a 1) v1.2).bind fun v2 => zchk (decide (v2.2.2.2.2 = v1.2.2.2.2)) ((nX11_thrown v2.2).bind fun v3 => if v3 = v1.1 then (if v1.1 = 0 then (if (lg_cmp (v2.2.2.1 72 (0 : Int32).toNatClampNeg) v2.1.toInt64) = 0 then (some v2.2) else (none)) else (some v2.2)) else (none)))
set_option maxHeartbeats 1000000 in
theorem tS_28 {x : zXx} {i : Int32} {a : Nat → Int32} (hl0 : (zl0 x).flags = flags0) (hG : zG x cL_law 7 RL ret) (hPx : zPx x.2.2.2.2.1) (hS : zScr x i a) {A0 B0 C : Nat} (g : zS) {r : zS} (h : nS_28 a g = some r) (kf : zgr r C ∧ zK x 66 3017 [(0, .ref 950), (1, .ref 0), (2, .ref 42), (3, .ref 72), (4, .int i)] [] zD r (A0 + (C / 64 - r.2.2.2 / 64)) (B0 + 2 * (C - r.2.2.2))) : zgr g C ∧ zK x 66 1887 [(0, .ref 950), (1, .ref 0), (2, .ref 42), (3, .ref 72), (4, .int i)] [] zD g (A0 + 1 + (C / 64 - g.2.2.2 / 64)) (B0 + 6 + 2 * (C - g.2.2.2)) := by
  unfold nS_28 at h
  refine And.imp_right (fun kk => z_aload_n (pc := 1887) hG 1 rfl rfl dL_law_1887 kk) ?_
  refine And.imp_right (fun kk => z_aload_n (pc := 1888) hG 0 rfl rfl dL_law_1888 kk) ?_
  refine And.imp_right (fun kk => z_iload (pc := 1889) hG 4 rfl dL_law_1889 kk) ?_
  refine And.imp_right (fun kk => z_iconst (pc := 1891) hG kc_1 dL_law_1891 kk) ?_
  refine And.imp_right (fun kk => z_iadd (pc := 1892) hG dL_law_1892 kk) ?_
  refine And.imp_right (fun kk => z_scr (pc := 1893) hG hS 1 (by decide) rfl dL_law_1893 kk) ?_
  refine And.imp_right (fun kk => z_aload_n (pc := 1894) hG 3 rfl rfl dL_law_1894 kk) ?_
  replace h := zbind h
  obtain ⟨v1, hv1, h⟩ := h
  replace h := zchk_some h
  obtain ⟨hqv1, h⟩ := h
  refine And.imp_right (fun kk => z_csH (A' := A0 + (C / 64 - g.2.2.2 / 64)) (B' := B0 + 2 * (C - g.2.2.2)) (rest := []) hG hPx [.ref 0, .int (a 1), .ref 72] (tL_forced hl0 (a 1) g hv1) zyH_forced w1182 w1181 dL_law_1895 rfl (Nat.le_of_ble_eq_true rfl) (by omega) (by omega) rfl (Nat.le_of_ble_eq_true rfl) rfl kk) ?_
  refine zpc (of_decide_eq_true hqv1) ?_
  refine And.imp_right (fun kk => z_istore (pc := 1898) (ls' := [(5, .int v1.1), (0, .ref 950), (1, .ref 0), (2, .ref 42), (3, .ref 72), (4, .int i)]) hG [0, 1, 2, 3, 4, 5] (by decide) rfl dL_law_1898 kk) ?_
  refine And.imp_right (fun kk => z_aload_n (pc := 1900) hG 3 rfl rfl dL_law_1900 kk) ?_
  refine And.imp_right (fun kk => z_aload_n (pc := 1901) hG 1 rfl rfl dL_law_1901 kk) ?_
  refine And.imp_right (fun kk => z_iload (pc := 1902) hG 5 rfl dL_law_1902 kk) ?_
  refine And.imp_right (fun kk => z_iconst (pc := 1904) hG kc_1 dL_law_1904 kk) ?_
  refine And.imp_right (fun kk => z_iadd (pc := 1905) hG dL_law_1905 kk) ?_
  refine And.imp_right (fun kk => z_scr (pc := 1906) hG hS 1 (by decide) rfl dL_law_1906 kk) ?_
  replace h := zbind h
  obtain ⟨v2, hv2, h⟩ := h
  replace h := zchk_some h
  obtain ⟨hqv2, h⟩ := h
  refine And.imp_right (fun kk => z_cvI (A' := A0 + (C / 64 - v1.2.2.2.2 / 64)) (B' := B0 + 2 * (C - v1.2.2.2.2)) (nc := 0) (ns := 0) (rest := []) hG [.int (a 1)] zc_X11 DL_42 (tX11_forced hl0 (a 1) v1.2 hv2) zy_X11_forced ⟨w1916, w1917⟩ w1915 dL_law_1907 rfl (Nat.le_of_ble_eq_true rfl) (by omega) (by omega) rfl (Nat.le_of_ble_eq_true rfl) rfl kk) ?_
  refine zpc (of_decide_eq_true hqv2) ?_
  refine And.imp_right (fun kk => z_istore (pc := 1910) (ls' := [(6, .int v2.1), (5, .int v1.1), (0, .ref 950), (1, .ref 0), (2, .ref 42), (3, .ref 72), (4, .int i)]) hG [0, 1, 2, 3, 4, 5, 6] (by decide) rfl dL_law_1910 kk) ?_
  refine And.imp_right (fun kk => z_aload_n (pc := 1912) hG 4 rfl rfl dL_law_1912 kk) ?_
  replace h := zbind h
  obtain ⟨v3, hv3, h⟩ := h
  refine And.imp_right (fun kk => z_cvI (A' := A0 + (C / 64 - v2.2.2.2.2 / 64)) (B' := B0 + 2 * (C - v2.2.2.2.2)) (nc := 0) (ns := 0) (rest := []) hG [] zc_X11 DL_42 (tX11_thrown hl0  v2.2 hv3) zy_X11_thrown ⟨w1595, w1596⟩ w1594 dL_law_1913 rfl (Nat.le_of_ble_eq_true rfl) (by omega) (by omega) rfl (Nat.le_of_ble_eq_true rfl) rfl kk) ?_
  refine And.imp_right (fun kk => z_iload (pc := 1916) hG 1 rfl dL_law_1916 kk) ?_
  by_cases hc : v3 = v1.1
  rotate_left
  · replace h := zif_f hc h
    cases h
  replace h := zif_t hc h
  refine And.imp_right (fun kk => z_icmp_eq (pc := 1918) (tgt := 1923) hG dL_law_1918 rfl (fun _ => kk) (fun q => (q hc).elim)) ?_
  refine And.imp_right (fun kk => z_iload (pc := 1923) hG 1 rfl dL_law_1923 kk) ?_
  refine zbr (c := v1.1 = 0) (fun hc => ?_) (fun hc => ?_) (fun k1 k2 => z_if_ne (pc := 1925) (tgt := 1940) hG dL_law_1925 rfl k2 k1)
  · replace h := zif_t hc h
    refine And.imp_right (fun kk => z_aload_n (pc := 1928) hG 5 rfl rfl dL_law_1928 kk) ?_
    refine And.imp_right (fun kk => z_iconst (pc := 1929) hG kc_0 dL_law_1929 kk) ?_
    refine And.imp_right (fun kk => z_lald (pc := 1930) hG DL_72 (zin_in (by decide)) dL_law_1930 kk) ?_
    refine And.imp_right (fun kk => z_iload (pc := 1931) hG 0 rfl dL_law_1931 kk) ?_
    refine And.imp_right (fun kk => z_i2l (pc := 1933) hG dL_law_1933 kk) ?_
    refine And.imp_right (fun kk => z_lcmp (pc := 1934) hG dL_law_1934 kk) ?_
    by_cases hc : (lg_cmp (v2.2.2.1 72 (0 : Int32).toNatClampNeg) v2.1.toInt64) = 0
    rotate_left
    · replace h := zif_f hc h
      cases h
    replace h := zif_t hc h
    refine And.imp_right (fun kk => z_if_eq (pc := 1935) (tgt := 1940) hG dL_law_1935 rfl (fun _ => kk) (fun q => (q hc).elim)) ?_
    refine And.imp_right (fun kk => z_goto (pc := 1940) (tgt := 3017) hG dL_law_1940 rfl kk) ?_
    obtain rfl := Option.some.inj h
    refine And.imp_right (fun kk => z_sub (ls' := [(0, .ref 950), (1, .ref 0), (2, .ref 42), (3, .ref 72), (4, .int i)]) [2, 3, 4, 5, 6] rfl kk) ?_
    exact kf
  · replace h := zif_f hc h
    refine And.imp_right (fun kk => z_goto (pc := 1940) (tgt := 3017) hG dL_law_1940 rfl kk) ?_
    obtain rfl := Option.some.inj h
    refine And.imp_right (fun kk => z_sub (ls' := [(0, .ref 950), (1, .ref 0), (2, .ref 42), (3, .ref 72), (4, .int i)]) [2, 3, 4, 5, 6] rfl kk) ?_
    exact kf
noncomputable def nS_29 (a : Nat → Int32) (g : zS) : Option zS :=
  (nX10_urgent (a 1) g).bind fun v1 => zchk (decide (v1.2.2.2.2 = g.2.2.2)) ((nX11_urgent (a 1) v1.2).bind fun v2 => zchk (decide (v2.2.2.2.2 = v1.2.2.2.2)) (if v1.1 = v2.1 then (some v2.2) else (none)))
set_option maxHeartbeats 1000000 in
theorem tS_29 {x : zXx} {i : Int32} {a : Nat → Int32} (hl0 : (zl0 x).flags = flags0) (hG : zG x cL_law 7 RL ret) (hPx : zPx x.2.2.2.2.1) (hS : zScr x i a) {A0 B0 C : Nat} (g : zS) {r : zS} (h : nS_29 a g = some r) (kf : zgr r C ∧ zK x 66 3017 [(0, .ref 950), (1, .ref 0), (2, .ref 42), (3, .ref 72), (4, .int i)] [] zD r (A0 + (C / 64 - r.2.2.2 / 64)) (B0 + 2 * (C - r.2.2.2))) : zgr g C ∧ zK x 66 1943 [(0, .ref 950), (1, .ref 0), (2, .ref 42), (3, .ref 72), (4, .int i)] [] zD g (A0 + 0 + (C / 64 - g.2.2.2 / 64)) (B0 + 0 + 2 * (C - g.2.2.2)) := by
  unfold nS_29 at h
  refine And.imp_right (fun kk => z_aload_n (pc := 1943) hG 1 rfl rfl dL_law_1943 kk) ?_
  refine And.imp_right (fun kk => z_aload_n (pc := 1944) hG 0 rfl rfl dL_law_1944 kk) ?_
  refine And.imp_right (fun kk => z_iload (pc := 1945) hG 4 rfl dL_law_1945 kk) ?_
  refine And.imp_right (fun kk => z_iconst (pc := 1947) hG kc_1 dL_law_1947 kk) ?_
  refine And.imp_right (fun kk => z_iadd (pc := 1948) hG dL_law_1948 kk) ?_
  refine And.imp_right (fun kk => z_scr (pc := 1949) hG hS 1 (by decide) rfl dL_law_1949 kk) ?_
  replace h := zbind h
  obtain ⟨v1, hv1, h⟩ := h
  replace h := zchk_some h
  obtain ⟨hqv1, h⟩ := h
  refine And.imp_right (fun kk => z_cvI (A' := A0 + (C / 64 - g.2.2.2 / 64)) (B' := B0 + 2 * (C - g.2.2.2)) (nc := 0) (ns := 0) (rest := []) hG [.int (a 1)] zc_X10 DL_0 (tX10_urgent hl0 (a 1) g hv1) zy_X10_urgent ⟨w416, w417⟩ w415 dL_law_1950 rfl (Nat.le_of_ble_eq_true rfl) (by omega) (by omega) rfl (Nat.le_of_ble_eq_true rfl) rfl kk) ?_
  refine zpc (of_decide_eq_true hqv1) ?_
  refine And.imp_right (fun kk => z_aload_n (pc := 1953) hG 2 rfl rfl dL_law_1953 kk) ?_
  refine And.imp_right (fun kk => z_aload_n (pc := 1954) hG 0 rfl rfl dL_law_1954 kk) ?_
  refine And.imp_right (fun kk => z_iload (pc := 1955) hG 4 rfl dL_law_1955 kk) ?_
  refine And.imp_right (fun kk => z_iconst (pc := 1957) hG kc_1 dL_law_1957 kk) ?_
  refine And.imp_right (fun kk => z_iadd (pc := 1958) hG dL_law_1958 kk) ?_
  refine And.imp_right (fun kk => z_scr (pc := 1959) hG hS 1 (by decide) rfl dL_law_1959 kk) ?_
  replace h := zbind h
  obtain ⟨v2, hv2, h⟩ := h
  replace h := zchk_some h
  obtain ⟨hqv2, h⟩ := h
  refine And.imp_right (fun kk => z_cvI (A' := A0 + (C / 64 - v1.2.2.2.2 / 64)) (B' := B0 + 2 * (C - v1.2.2.2.2)) (nc := 0) (ns := 0) (rest := [.int v1.1]) hG [.int (a 1)] zc_X11 DL_42 (tX11_urgent hl0 (a 1) v1.2 hv2) zy_X11_urgent ⟨w1920, w1921⟩ w1919 dL_law_1960 rfl (Nat.le_of_ble_eq_true rfl) (by omega) (by omega) rfl (Nat.le_of_ble_eq_true rfl) rfl kk) ?_
  refine zpc (of_decide_eq_true hqv2) ?_
  by_cases hc : v1.1 = v2.1
  rotate_left
  · replace h := zif_f hc h
    cases h
  replace h := zif_t hc h
  refine And.imp_right (fun kk => z_icmp_eq (pc := 1963) (tgt := 3017) hG dL_law_1963 rfl (fun _ => kk) (fun q => (q hc).elim)) ?_
  obtain rfl := Option.some.inj h
  exact kf
noncomputable def nS_30 (a : Nat → Int32) (g : zS) : Option zS :=
  if (a 3) = 0 then ((nL_donor (a 1) (a 2) (0 : Int32) g).bind fun v1 => zchk (decide (v1.2.2.2.2 = g.2.2.2)) (if (a 3) = 0 then ((nX11_donor (a 1) (a 2) (0 : Int32) v1.2).bind fun v2 => zchk (decide (v2.2.2.2.2 = v1.2.2.2.2)) ((nX11_thrown v2.2).bind fun v3 => if v3 = v1.1 then (if v1.1 = 0 then (if (lg_cmp (v2.2.2.1 72 (0 : Int32).toNatClampNeg) v2.1.toInt64) = 0 then (some v2.2) else (none)) else (some v2.2)) else (none))) else ((nX11_donor (a 1) (a 2) (1 : Int32) v1.2).bind fun v4 => zchk (decide (v4.2.2.2.2 = v1.2.2.2.2)) ((nX11_thrown v4.2).bind fun v5 => if v5 = v1.1 then (if v1.1 = 0 then (if (lg_cmp (v4.2.2.1 72 (0 : Int32).toNatClampNeg) v4.1.toInt64) = 0 then (some v4.2) else (none)) else (some v4.2)) else (none))))) else ((nL_donor (a 1) (a 2) (1 : Int32) g).bind fun v6 => zchk (decide (v6.2.2.2.2 = g.2.2.2)) (if (a 3) = 0 then ((nX11_donor (a 1) (a 2) (0 : Int32) v6.2).bind fun v7 => zchk (decide (v7.2.2.2.2 = v6.2.2.2.2)) ((nX11_thrown v7.2).bind fun v8 => if v8 = v6.1 then (if v6.1 = 0 then (if (lg_cmp (v7.2.2.1 72 (0 : Int32).toNatClampNeg) v7.1.toInt64) = 0 then (some v7.2) else (none)) else (some v7.2)) else (none))) else ((nX11_donor (a 1) (a 2) (1 : Int32) v6.2).bind fun v9 => zchk (decide (v9.2.2.2.2 = v6.2.2.2.2)) ((nX11_thrown v9.2).bind fun v10 => if v10 = v6.1 then (if v6.1 = 0 then (if (lg_cmp (v9.2.2.1 72 (0 : Int32).toNatClampNeg) v9.1.toInt64) = 0 then (some v9.2) else (none)) else (some v9.2)) else (none)))))
set_option maxHeartbeats 1000000 in
theorem tS_30 {x : zXx} {i : Int32} {a : Nat → Int32} (hl0 : (zl0 x).flags = flags0) (hG : zG x cL_law 7 RL ret) (hPx : zPx x.2.2.2.2.1) (hS : zScr x i a) {A0 B0 C : Nat} (g : zS) {r : zS} (h : nS_30 a g = some r) (kf : zgr r C ∧ zK x 66 3017 [(0, .ref 950), (1, .ref 0), (2, .ref 42), (3, .ref 72), (4, .int i)] [] zD r (A0 + (C / 64 - r.2.2.2 / 64)) (B0 + 2 * (C - r.2.2.2))) : zgr g C ∧ zK x 66 1968 [(0, .ref 950), (1, .ref 0), (2, .ref 42), (3, .ref 72), (4, .int i)] [] zD g (A0 + 1 + (C / 64 - g.2.2.2 / 64)) (B0 + 6 + 2 * (C - g.2.2.2)) := by
  unfold nS_30 at h
  refine And.imp_right (fun kk => z_aload_n (pc := 1968) hG 1 rfl rfl dL_law_1968 kk) ?_
  refine And.imp_right (fun kk => z_aload_n (pc := 1969) hG 0 rfl rfl dL_law_1969 kk) ?_
  refine And.imp_right (fun kk => z_iload (pc := 1970) hG 4 rfl dL_law_1970 kk) ?_
  refine And.imp_right (fun kk => z_iconst (pc := 1972) hG kc_1 dL_law_1972 kk) ?_
  refine And.imp_right (fun kk => z_iadd (pc := 1973) hG dL_law_1973 kk) ?_
  refine And.imp_right (fun kk => z_scr (pc := 1974) hG hS 1 (by decide) rfl dL_law_1974 kk) ?_
  refine And.imp_right (fun kk => z_aload_n (pc := 1975) hG 0 rfl rfl dL_law_1975 kk) ?_
  refine And.imp_right (fun kk => z_iload (pc := 1976) hG 4 rfl dL_law_1976 kk) ?_
  refine And.imp_right (fun kk => z_iconst (pc := 1978) hG kc_2 dL_law_1978 kk) ?_
  refine And.imp_right (fun kk => z_iadd (pc := 1979) hG dL_law_1979 kk) ?_
  refine And.imp_right (fun kk => z_scr (pc := 1980) hG hS 2 (by decide) rfl dL_law_1980 kk) ?_
  refine And.imp_right (fun kk => z_aload_n (pc := 1981) hG 0 rfl rfl dL_law_1981 kk) ?_
  refine And.imp_right (fun kk => z_iload (pc := 1982) hG 4 rfl dL_law_1982 kk) ?_
  refine And.imp_right (fun kk => z_iconst (pc := 1984) hG kc_3 dL_law_1984 kk) ?_
  refine And.imp_right (fun kk => z_iadd (pc := 1985) hG dL_law_1985 kk) ?_
  refine And.imp_right (fun kk => z_scr (pc := 1986) hG hS 3 (by decide) rfl dL_law_1986 kk) ?_
  refine zbr (c := (a 3) = 0) (fun hc => ?_) (fun hc => ?_) (fun k1 k2 => z_if_eq (pc := 1987) (tgt := 1994) hG dL_law_1987 rfl k1 k2)
  · replace h := zif_t hc h
    refine And.imp_right (fun kk => z_iconst (pc := 1994) hG kc_0 dL_law_1994 kk) ?_
    refine And.imp_right (fun kk => z_aload_n (pc := 1995) hG 3 rfl rfl dL_law_1995 kk) ?_
    replace h := zbind h
    obtain ⟨v1, hv1, h⟩ := h
    replace h := zchk_some h
    obtain ⟨hqv1, h⟩ := h
    refine And.imp_right (fun kk => z_csH (A' := A0 + (C / 64 - g.2.2.2 / 64)) (B' := B0 + 2 * (C - g.2.2.2)) (rest := []) hG hPx [.ref 0, .int (a 1), .int (a 2), .int (0 : Int32), .ref 72] (tL_donor hl0 (a 1) (a 2) (0 : Int32) g hv1) zyH_donor w1194 w1193 dL_law_1996 rfl (Nat.le_of_ble_eq_true rfl) (by omega) (by omega) rfl (Nat.le_of_ble_eq_true rfl) rfl kk) ?_
    refine zpc (of_decide_eq_true hqv1) ?_
    refine And.imp_right (fun kk => z_istore (pc := 1999) (ls' := [(5, .int v1.1), (0, .ref 950), (1, .ref 0), (2, .ref 42), (3, .ref 72), (4, .int i)]) hG [0, 1, 2, 3, 4, 5] (by decide) rfl dL_law_1999 kk) ?_
    refine And.imp_right (fun kk => z_aload_n (pc := 2001) hG 3 rfl rfl dL_law_2001 kk) ?_
    refine And.imp_right (fun kk => z_aload_n (pc := 2002) hG 1 rfl rfl dL_law_2002 kk) ?_
    refine And.imp_right (fun kk => z_iload (pc := 2003) hG 5 rfl dL_law_2003 kk) ?_
    refine And.imp_right (fun kk => z_iconst (pc := 2005) hG kc_1 dL_law_2005 kk) ?_
    refine And.imp_right (fun kk => z_iadd (pc := 2006) hG dL_law_2006 kk) ?_
    refine And.imp_right (fun kk => z_scr (pc := 2007) hG hS 1 (by decide) rfl dL_law_2007 kk) ?_
    refine And.imp_right (fun kk => z_aload_n (pc := 2008) hG 1 rfl rfl dL_law_2008 kk) ?_
    refine And.imp_right (fun kk => z_iload (pc := 2009) hG 5 rfl dL_law_2009 kk) ?_
    refine And.imp_right (fun kk => z_iconst (pc := 2011) hG kc_2 dL_law_2011 kk) ?_
    refine And.imp_right (fun kk => z_iadd (pc := 2012) hG dL_law_2012 kk) ?_
    refine And.imp_right (fun kk => z_scr (pc := 2013) hG hS 2 (by decide) rfl dL_law_2013 kk) ?_
    refine And.imp_right (fun kk => z_aload_n (pc := 2014) hG 1 rfl rfl dL_law_2014 kk) ?_
    refine And.imp_right (fun kk => z_iload (pc := 2015) hG 5 rfl dL_law_2015 kk) ?_
    refine And.imp_right (fun kk => z_iconst (pc := 2017) hG kc_3 dL_law_2017 kk) ?_
    refine And.imp_right (fun kk => z_iadd (pc := 2018) hG dL_law_2018 kk) ?_
    refine And.imp_right (fun kk => z_scr (pc := 2019) hG hS 3 (by decide) rfl dL_law_2019 kk) ?_
    refine zbr (c := (a 3) = 0) (fun hc => ?_) (fun hc => ?_) (fun k1 k2 => z_if_eq (pc := 2020) (tgt := 2027) hG dL_law_2020 rfl k1 k2)
    · replace h := zif_t hc h
      refine And.imp_right (fun kk => z_iconst (pc := 2027) hG kc_0 dL_law_2027 kk) ?_
      replace h := zbind h
      obtain ⟨v2, hv2, h⟩ := h
      replace h := zchk_some h
      obtain ⟨hqv2, h⟩ := h
      refine And.imp_right (fun kk => z_cvI (A' := A0 + (C / 64 - v1.2.2.2.2 / 64)) (B' := B0 + 2 * (C - v1.2.2.2.2)) (nc := 0) (ns := 0) (rest := []) hG [.int (a 1), .int (a 2), .int (0 : Int32)] zc_X11 DL_42 (tX11_donor hl0 (a 1) (a 2) (0 : Int32) v1.2 hv2) zy_X11_donor ⟨w1937, w1938⟩ w1936 dL_law_2028 rfl (Nat.le_of_ble_eq_true rfl) (by omega) (by omega) rfl (Nat.le_of_ble_eq_true rfl) rfl kk) ?_
      refine zpc (of_decide_eq_true hqv2) ?_
      refine And.imp_right (fun kk => z_istore (pc := 2031) (ls' := [(6, .int v2.1), (5, .int v1.1), (0, .ref 950), (1, .ref 0), (2, .ref 42), (3, .ref 72), (4, .int i)]) hG [0, 1, 2, 3, 4, 5, 6] (by decide) rfl dL_law_2031 kk) ?_
      refine And.imp_right (fun kk => z_aload_n (pc := 2033) hG 4 rfl rfl dL_law_2033 kk) ?_
      replace h := zbind h
      obtain ⟨v3, hv3, h⟩ := h
      refine And.imp_right (fun kk => z_cvI (A' := A0 + (C / 64 - v2.2.2.2.2 / 64)) (B' := B0 + 2 * (C - v2.2.2.2.2)) (nc := 0) (ns := 0) (rest := []) hG [] zc_X11 DL_42 (tX11_thrown hl0  v2.2 hv3) zy_X11_thrown ⟨w1595, w1596⟩ w1594 dL_law_2034 rfl (Nat.le_of_ble_eq_true rfl) (by omega) (by omega) rfl (Nat.le_of_ble_eq_true rfl) rfl kk) ?_
      refine And.imp_right (fun kk => z_iload (pc := 2037) hG 1 rfl dL_law_2037 kk) ?_
      by_cases hc : v3 = v1.1
      rotate_left
      · replace h := zif_f hc h
        cases h
      replace h := zif_t hc h
      refine And.imp_right (fun kk => z_icmp_eq (pc := 2039) (tgt := 2044) hG dL_law_2039 rfl (fun _ => kk) (fun q => (q hc).elim)) ?_
      refine And.imp_right (fun kk => z_iload (pc := 2044) hG 1 rfl dL_law_2044 kk) ?_
      refine zbr (c := v1.1 = 0) (fun hc => ?_) (fun hc => ?_) (fun k1 k2 => z_if_ne (pc := 2046) (tgt := 2061) hG dL_law_2046 rfl k2 k1)
      · replace h := zif_t hc h
        refine And.imp_right (fun kk => z_aload_n (pc := 2049) hG 5 rfl rfl dL_law_2049 kk) ?_
        refine And.imp_right (fun kk => z_iconst (pc := 2050) hG kc_0 dL_law_2050 kk) ?_
        refine And.imp_right (fun kk => z_lald (pc := 2051) hG DL_72 (zin_in (by decide)) dL_law_2051 kk) ?_
        refine And.imp_right (fun kk => z_iload (pc := 2052) hG 0 rfl dL_law_2052 kk) ?_
        refine And.imp_right (fun kk => z_i2l (pc := 2054) hG dL_law_2054 kk) ?_
        refine And.imp_right (fun kk => z_lcmp (pc := 2055) hG dL_law_2055 kk) ?_
        by_cases hc : (lg_cmp (v2.2.2.1 72 (0 : Int32).toNatClampNeg) v2.1.toInt64) = 0
        rotate_left
        · replace h := zif_f hc h
          cases h
        replace h := zif_t hc h
        refine And.imp_right (fun kk => z_if_eq (pc := 2056) (tgt := 2061) hG dL_law_2056 rfl (fun _ => kk) (fun q => (q hc).elim)) ?_
        refine And.imp_right (fun kk => z_goto (pc := 2061) (tgt := 3017) hG dL_law_2061 rfl kk) ?_
        obtain rfl := Option.some.inj h
        refine And.imp_right (fun kk => z_sub (ls' := [(0, .ref 950), (1, .ref 0), (2, .ref 42), (3, .ref 72), (4, .int i)]) [2, 3, 4, 5, 6] rfl kk) ?_
        exact kf
      · replace h := zif_f hc h
        refine And.imp_right (fun kk => z_goto (pc := 2061) (tgt := 3017) hG dL_law_2061 rfl kk) ?_
        obtain rfl := Option.some.inj h
        refine And.imp_right (fun kk => z_sub (ls' := [(0, .ref 950), (1, .ref 0), (2, .ref 42), (3, .ref 72), (4, .int i)]) [2, 3, 4, 5, 6] rfl kk) ?_
        exact kf
    · replace h := zif_f hc h
      refine And.imp_right (fun kk => z_iconst (pc := 2023) hG kc_1 dL_law_2023 kk) ?_
      refine And.imp_right (fun kk => z_goto (pc := 2024) (tgt := 2028) hG dL_law_2024 rfl kk) ?_
      replace h := zbind h
      obtain ⟨v4, hv4, h⟩ := h
      replace h := zchk_some h
      obtain ⟨hqv4, h⟩ := h
      refine And.imp_right (fun kk => z_cvI (A' := A0 + (C / 64 - v1.2.2.2.2 / 64)) (B' := B0 + 2 * (C - v1.2.2.2.2)) (nc := 0) (ns := 0) (rest := []) hG [.int (a 1), .int (a 2), .int (1 : Int32)] zc_X11 DL_42 (tX11_donor hl0 (a 1) (a 2) (1 : Int32) v1.2 hv4) zy_X11_donor ⟨w1937, w1938⟩ w1936 dL_law_2028 rfl (Nat.le_of_ble_eq_true rfl) (by omega) (by omega) rfl (Nat.le_of_ble_eq_true rfl) rfl kk) ?_
      refine zpc (of_decide_eq_true hqv4) ?_
      refine And.imp_right (fun kk => z_istore (pc := 2031) (ls' := [(6, .int v4.1), (5, .int v1.1), (0, .ref 950), (1, .ref 0), (2, .ref 42), (3, .ref 72), (4, .int i)]) hG [0, 1, 2, 3, 4, 5, 6] (by decide) rfl dL_law_2031 kk) ?_
      refine And.imp_right (fun kk => z_aload_n (pc := 2033) hG 4 rfl rfl dL_law_2033 kk) ?_
      replace h := zbind h
      obtain ⟨v5, hv5, h⟩ := h
      refine And.imp_right (fun kk => z_cvI (A' := A0 + (C / 64 - v4.2.2.2.2 / 64)) (B' := B0 + 2 * (C - v4.2.2.2.2)) (nc := 0) (ns := 0) (rest := []) hG [] zc_X11 DL_42 (tX11_thrown hl0  v4.2 hv5) zy_X11_thrown ⟨w1595, w1596⟩ w1594 dL_law_2034 rfl (Nat.le_of_ble_eq_true rfl) (by omega) (by omega) rfl (Nat.le_of_ble_eq_true rfl) rfl kk) ?_
      refine And.imp_right (fun kk => z_iload (pc := 2037) hG 1 rfl dL_law_2037 kk) ?_
      by_cases hc : v5 = v1.1
      rotate_left
      · replace h := zif_f hc h
        cases h
      replace h := zif_t hc h
      refine And.imp_right (fun kk => z_icmp_eq (pc := 2039) (tgt := 2044) hG dL_law_2039 rfl (fun _ => kk) (fun q => (q hc).elim)) ?_
      refine And.imp_right (fun kk => z_iload (pc := 2044) hG 1 rfl dL_law_2044 kk) ?_
      refine zbr (c := v1.1 = 0) (fun hc => ?_) (fun hc => ?_) (fun k1 k2 => z_if_ne (pc := 2046) (tgt := 2061) hG dL_law_2046 rfl k2 k1)
      · replace h := zif_t hc h
        refine And.imp_right (fun kk => z_aload_n (pc := 2049) hG 5 rfl rfl dL_law_2049 kk) ?_
        refine And.imp_right (fun kk => z_iconst (pc := 2050) hG kc_0 dL_law_2050 kk) ?_
        refine And.imp_right (fun kk => z_lald (pc := 2051) hG DL_72 (zin_in (by decide)) dL_law_2051 kk) ?_
        refine And.imp_right (fun kk => z_iload (pc := 2052) hG 0 rfl dL_law_2052 kk) ?_
        refine And.imp_right (fun kk => z_i2l (pc := 2054) hG dL_law_2054 kk) ?_
        refine And.imp_right (fun kk => z_lcmp (pc := 2055) hG dL_law_2055 kk) ?_
        by_cases hc : (lg_cmp (v4.2.2.1 72 (0 : Int32).toNatClampNeg) v4.1.toInt64) = 0
        rotate_left
        · replace h := zif_f hc h
          cases h
        replace h := zif_t hc h
        refine And.imp_right (fun kk => z_if_eq (pc := 2056) (tgt := 2061) hG dL_law_2056 rfl (fun _ => kk) (fun q => (q hc).elim)) ?_
        refine And.imp_right (fun kk => z_goto (pc := 2061) (tgt := 3017) hG dL_law_2061 rfl kk) ?_
        obtain rfl := Option.some.inj h
        refine And.imp_right (fun kk => z_sub (ls' := [(0, .ref 950), (1, .ref 0), (2, .ref 42), (3, .ref 72), (4, .int i)]) [2, 3, 4, 5, 6] rfl kk) ?_
        exact kf
      · replace h := zif_f hc h
        refine And.imp_right (fun kk => z_goto (pc := 2061) (tgt := 3017) hG dL_law_2061 rfl kk) ?_
        obtain rfl := Option.some.inj h
        refine And.imp_right (fun kk => z_sub (ls' := [(0, .ref 950), (1, .ref 0), (2, .ref 42), (3, .ref 72), (4, .int i)]) [2, 3, 4, 5, 6] rfl kk) ?_
        exact kf
  · replace h := zif_f hc h
    refine And.imp_right (fun kk => z_iconst (pc := 1990) hG kc_1 dL_law_1990 kk) ?_
    refine And.imp_right (fun kk => z_goto (pc := 1991) (tgt := 1995) hG dL_law_1991 rfl kk) ?_
    refine And.imp_right (fun kk => z_aload_n (pc := 1995) hG 3 rfl rfl dL_law_1995 kk) ?_
    replace h := zbind h
    obtain ⟨v6, hv6, h⟩ := h
    replace h := zchk_some h
    obtain ⟨hqv6, h⟩ := h
    refine And.imp_right (fun kk => z_csH (A' := A0 + (C / 64 - g.2.2.2 / 64)) (B' := B0 + 2 * (C - g.2.2.2)) (rest := []) hG hPx [.ref 0, .int (a 1), .int (a 2), .int (1 : Int32), .ref 72] (tL_donor hl0 (a 1) (a 2) (1 : Int32) g hv6) zyH_donor w1194 w1193 dL_law_1996 rfl (Nat.le_of_ble_eq_true rfl) (by omega) (by omega) rfl (Nat.le_of_ble_eq_true rfl) rfl kk) ?_
    refine zpc (of_decide_eq_true hqv6) ?_
    refine And.imp_right (fun kk => z_istore (pc := 1999) (ls' := [(5, .int v6.1), (0, .ref 950), (1, .ref 0), (2, .ref 42), (3, .ref 72), (4, .int i)]) hG [0, 1, 2, 3, 4, 5] (by decide) rfl dL_law_1999 kk) ?_
    refine And.imp_right (fun kk => z_aload_n (pc := 2001) hG 3 rfl rfl dL_law_2001 kk) ?_
    refine And.imp_right (fun kk => z_aload_n (pc := 2002) hG 1 rfl rfl dL_law_2002 kk) ?_
    refine And.imp_right (fun kk => z_iload (pc := 2003) hG 5 rfl dL_law_2003 kk) ?_
    refine And.imp_right (fun kk => z_iconst (pc := 2005) hG kc_1 dL_law_2005 kk) ?_
    refine And.imp_right (fun kk => z_iadd (pc := 2006) hG dL_law_2006 kk) ?_
    refine And.imp_right (fun kk => z_scr (pc := 2007) hG hS 1 (by decide) rfl dL_law_2007 kk) ?_
    refine And.imp_right (fun kk => z_aload_n (pc := 2008) hG 1 rfl rfl dL_law_2008 kk) ?_
    refine And.imp_right (fun kk => z_iload (pc := 2009) hG 5 rfl dL_law_2009 kk) ?_
    refine And.imp_right (fun kk => z_iconst (pc := 2011) hG kc_2 dL_law_2011 kk) ?_
    refine And.imp_right (fun kk => z_iadd (pc := 2012) hG dL_law_2012 kk) ?_
    refine And.imp_right (fun kk => z_scr (pc := 2013) hG hS 2 (by decide) rfl dL_law_2013 kk) ?_
    refine And.imp_right (fun kk => z_aload_n (pc := 2014) hG 1 rfl rfl dL_law_2014 kk) ?_
    refine And.imp_right (fun kk => z_iload (pc := 2015) hG 5 rfl dL_law_2015 kk) ?_
    refine And.imp_right (fun kk => z_iconst (pc := 2017) hG kc_3 dL_law_2017 kk) ?_
    refine And.imp_right (fun kk => z_iadd (pc := 2018) hG dL_law_2018 kk) ?_
    refine And.imp_right (fun kk => z_scr (pc := 2019) hG hS 3 (by decide) rfl dL_law_2019 kk) ?_
    refine zbr (c := (a 3) = 0) (fun hc => ?_) (fun hc => ?_) (fun k1 k2 => z_if_eq (pc := 2020) (tgt := 2027) hG dL_law_2020 rfl k1 k2)
    · replace h := zif_t hc h
      refine And.imp_right (fun kk => z_iconst (pc := 2027) hG kc_0 dL_law_2027 kk) ?_
      replace h := zbind h
      obtain ⟨v7, hv7, h⟩ := h
      replace h := zchk_some h
      obtain ⟨hqv7, h⟩ := h
      refine And.imp_right (fun kk => z_cvI (A' := A0 + (C / 64 - v6.2.2.2.2 / 64)) (B' := B0 + 2 * (C - v6.2.2.2.2)) (nc := 0) (ns := 0) (rest := []) hG [.int (a 1), .int (a 2), .int (0 : Int32)] zc_X11 DL_42 (tX11_donor hl0 (a 1) (a 2) (0 : Int32) v6.2 hv7) zy_X11_donor ⟨w1937, w1938⟩ w1936 dL_law_2028 rfl (Nat.le_of_ble_eq_true rfl) (by omega) (by omega) rfl (Nat.le_of_ble_eq_true rfl) rfl kk) ?_
      refine zpc (of_decide_eq_true hqv7) ?_
      refine And.imp_right (fun kk => z_istore (pc := 2031) (ls' := [(6, .int v7.1), (5, .int v6.1), (0, .ref 950), (1, .ref 0), (2, .ref 42), (3, .ref 72), (4, .int i)]) hG [0, 1, 2, 3, 4, 5, 6] (by decide) rfl dL_law_2031 kk) ?_
      refine And.imp_right (fun kk => z_aload_n (pc := 2033) hG 4 rfl rfl dL_law_2033 kk) ?_
      replace h := zbind h
      obtain ⟨v8, hv8, h⟩ := h
      refine And.imp_right (fun kk => z_cvI (A' := A0 + (C / 64 - v7.2.2.2.2 / 64)) (B' := B0 + 2 * (C - v7.2.2.2.2)) (nc := 0) (ns := 0) (rest := []) hG [] zc_X11 DL_42 (tX11_thrown hl0  v7.2 hv8) zy_X11_thrown ⟨w1595, w1596⟩ w1594 dL_law_2034 rfl (Nat.le_of_ble_eq_true rfl) (by omega) (by omega) rfl (Nat.le_of_ble_eq_true rfl) rfl kk) ?_
      refine And.imp_right (fun kk => z_iload (pc := 2037) hG 1 rfl dL_law_2037 kk) ?_
      by_cases hc : v8 = v6.1
      rotate_left
      · replace h := zif_f hc h
        cases h
      replace h := zif_t hc h
      refine And.imp_right (fun kk => z_icmp_eq (pc := 2039) (tgt := 2044) hG dL_law_2039 rfl (fun _ => kk) (fun q => (q hc).elim)) ?_
      refine And.imp_right (fun kk => z_iload (pc := 2044) hG 1 rfl dL_law_2044 kk) ?_
      refine zbr (c := v6.1 = 0) (fun hc => ?_) (fun hc => ?_) (fun k1 k2 => z_if_ne (pc := 2046) (tgt := 2061) hG dL_law_2046 rfl k2 k1)
      · replace h := zif_t hc h
        refine And.imp_right (fun kk => z_aload_n (pc := 2049) hG 5 rfl rfl dL_law_2049 kk) ?_
        refine And.imp_right (fun kk => z_iconst (pc := 2050) hG kc_0 dL_law_2050 kk) ?_
        refine And.imp_right (fun kk => z_lald (pc := 2051) hG DL_72 (zin_in (by decide)) dL_law_2051 kk) ?_
        refine And.imp_right (fun kk => z_iload (pc := 2052) hG 0 rfl dL_law_2052 kk) ?_
        refine And.imp_right (fun kk => z_i2l (pc := 2054) hG dL_law_2054 kk) ?_
        refine And.imp_right (fun kk => z_lcmp (pc := 2055) hG dL_law_2055 kk) ?_
        by_cases hc : (lg_cmp (v7.2.2.1 72 (0 : Int32).toNatClampNeg) v7.1.toInt64) = 0
        rotate_left
        · replace h := zif_f hc h
          cases h
        replace h := zif_t hc h
        refine And.imp_right (fun kk => z_if_eq (pc := 2056) (tgt := 2061) hG dL_law_2056 rfl (fun _ => kk) (fun q => (q hc).elim)) ?_
        refine And.imp_right (fun kk => z_goto (pc := 2061) (tgt := 3017) hG dL_law_2061 rfl kk) ?_
        obtain rfl := Option.some.inj h
        refine And.imp_right (fun kk => z_sub (ls' := [(0, .ref 950), (1, .ref 0), (2, .ref 42), (3, .ref 72), (4, .int i)]) [2, 3, 4, 5, 6] rfl kk) ?_
        exact kf
      · replace h := zif_f hc h
        refine And.imp_right (fun kk => z_goto (pc := 2061) (tgt := 3017) hG dL_law_2061 rfl kk) ?_
        obtain rfl := Option.some.inj h
        refine And.imp_right (fun kk => z_sub (ls' := [(0, .ref 950), (1, .ref 0), (2, .ref 42), (3, .ref 72), (4, .int i)]) [2, 3, 4, 5, 6] rfl kk) ?_
        exact kf
    · replace h := zif_f hc h
      refine And.imp_right (fun kk => z_iconst (pc := 2023) hG kc_1 dL_law_2023 kk) ?_
      refine And.imp_right (fun kk => z_goto (pc := 2024) (tgt := 2028) hG dL_law_2024 rfl kk) ?_
      replace h := zbind h
      obtain ⟨v9, hv9, h⟩ := h
      replace h := zchk_some h
      obtain ⟨hqv9, h⟩ := h
      refine And.imp_right (fun kk => z_cvI (A' := A0 + (C / 64 - v6.2.2.2.2 / 64)) (B' := B0 + 2 * (C - v6.2.2.2.2)) (nc := 0) (ns := 0) (rest := []) hG [.int (a 1), .int (a 2), .int (1 : Int32)] zc_X11 DL_42 (tX11_donor hl0 (a 1) (a 2) (1 : Int32) v6.2 hv9) zy_X11_donor ⟨w1937, w1938⟩ w1936 dL_law_2028 rfl (Nat.le_of_ble_eq_true rfl) (by omega) (by omega) rfl (Nat.le_of_ble_eq_true rfl) rfl kk) ?_
      refine zpc (of_decide_eq_true hqv9) ?_
      refine And.imp_right (fun kk => z_istore (pc := 2031) (ls' := [(6, .int v9.1), (5, .int v6.1), (0, .ref 950), (1, .ref 0), (2, .ref 42), (3, .ref 72), (4, .int i)]) hG [0, 1, 2, 3, 4, 5, 6] (by decide) rfl dL_law_2031 kk) ?_
      refine And.imp_right (fun kk => z_aload_n (pc := 2033) hG 4 rfl rfl dL_law_2033 kk) ?_
      replace h := zbind h
      obtain ⟨v10, hv10, h⟩ := h
      refine And.imp_right (fun kk => z_cvI (A' := A0 + (C / 64 - v9.2.2.2.2 / 64)) (B' := B0 + 2 * (C - v9.2.2.2.2)) (nc := 0) (ns := 0) (rest := []) hG [] zc_X11 DL_42 (tX11_thrown hl0  v9.2 hv10) zy_X11_thrown ⟨w1595, w1596⟩ w1594 dL_law_2034 rfl (Nat.le_of_ble_eq_true rfl) (by omega) (by omega) rfl (Nat.le_of_ble_eq_true rfl) rfl kk) ?_
      refine And.imp_right (fun kk => z_iload (pc := 2037) hG 1 rfl dL_law_2037 kk) ?_
      by_cases hc : v10 = v6.1
      rotate_left
      · replace h := zif_f hc h
        cases h
      replace h := zif_t hc h
      refine And.imp_right (fun kk => z_icmp_eq (pc := 2039) (tgt := 2044) hG dL_law_2039 rfl (fun _ => kk) (fun q => (q hc).elim)) ?_
      refine And.imp_right (fun kk => z_iload (pc := 2044) hG 1 rfl dL_law_2044 kk) ?_
      refine zbr (c := v6.1 = 0) (fun hc => ?_) (fun hc => ?_) (fun k1 k2 => z_if_ne (pc := 2046) (tgt := 2061) hG dL_law_2046 rfl k2 k1)
      · replace h := zif_t hc h
        refine And.imp_right (fun kk => z_aload_n (pc := 2049) hG 5 rfl rfl dL_law_2049 kk) ?_
        refine And.imp_right (fun kk => z_iconst (pc := 2050) hG kc_0 dL_law_2050 kk) ?_
        refine And.imp_right (fun kk => z_lald (pc := 2051) hG DL_72 (zin_in (by decide)) dL_law_2051 kk) ?_
        refine And.imp_right (fun kk => z_iload (pc := 2052) hG 0 rfl dL_law_2052 kk) ?_
        refine And.imp_right (fun kk => z_i2l (pc := 2054) hG dL_law_2054 kk) ?_
        refine And.imp_right (fun kk => z_lcmp (pc := 2055) hG dL_law_2055 kk) ?_
        by_cases hc : (lg_cmp (v9.2.2.1 72 (0 : Int32).toNatClampNeg) v9.1.toInt64) = 0
        rotate_left
        · replace h := zif_f hc h
          cases h
        replace h := zif_t hc h
        refine And.imp_right (fun kk => z_if_eq (pc := 2056) (tgt := 2061) hG dL_law_2056 rfl (fun _ => kk) (fun q => (q hc).elim)) ?_
        refine And.imp_right (fun kk => z_goto (pc := 2061) (tgt := 3017) hG dL_law_2061 rfl kk) ?_
        obtain rfl := Option.some.inj h
        refine And.imp_right (fun kk => z_sub (ls' := [(0, .ref 950), (1, .ref 0), (2, .ref 42), (3, .ref 72), (4, .int i)]) [2, 3, 4, 5, 6] rfl kk) ?_
        exact kf
      · replace h := zif_f hc h
        refine And.imp_right (fun kk => z_goto (pc := 2061) (tgt := 3017) hG dL_law_2061 rfl kk) ?_
        obtain rfl := Option.some.inj h
        refine And.imp_right (fun kk => z_sub (ls' := [(0, .ref 950), (1, .ref 0), (2, .ref 42), (3, .ref 72), (4, .int i)]) [2, 3, 4, 5, 6] rfl kk) ?_
        exact kf
noncomputable def nS_31 (a : Nat → Int32) (g : zS) : Option zS :=
  (nL_would (a 1) (a 2) g).bind fun v1 => zchk (decide (v1.2.2.2.2 = g.2.2.2)) ((nX11_would (a 1) (a 2) v1.2).bind fun v2 => zchk (decide (v2.2.2.2.2 = v1.2.2.2.2)) ((nX11_thrown v2.2).bind fun v3 => if v3 = v1.1 then (if v1.1 = 0 then (if (lg_cmp (v2.2.2.1 72 (0 : Int32).toNatClampNeg) v2.1.toInt64) = 0 then (some v2.2) else (none)) else (some v2.2)) else (none)))
set_option maxHeartbeats 1000000 in
theorem tS_31 {x : zXx} {i : Int32} {a : Nat → Int32} (hl0 : (zl0 x).flags = flags0) (hG : zG x cL_law 7 RL ret) (hPx : zPx x.2.2.2.2.1) (hS : zScr x i a) {A0 B0 C : Nat} (g : zS) {r : zS} (h : nS_31 a g = some r) (kf : zgr r C ∧ zK x 66 3017 [(0, .ref 950), (1, .ref 0), (2, .ref 42), (3, .ref 72), (4, .int i)] [] zD r (A0 + (C / 64 - r.2.2.2 / 64)) (B0 + 2 * (C - r.2.2.2))) : zgr g C ∧ zK x 66 2064 [(0, .ref 950), (1, .ref 0), (2, .ref 42), (3, .ref 72), (4, .int i)] [] zD g (A0 + 2 + (C / 64 - g.2.2.2 / 64)) (B0 + 12 + 2 * (C - g.2.2.2)) := by
  unfold nS_31 at h
  refine And.imp_right (fun kk => z_aload_n (pc := 2064) hG 1 rfl rfl dL_law_2064 kk) ?_
  refine And.imp_right (fun kk => z_aload_n (pc := 2065) hG 0 rfl rfl dL_law_2065 kk) ?_
  refine And.imp_right (fun kk => z_iload (pc := 2066) hG 4 rfl dL_law_2066 kk) ?_
  refine And.imp_right (fun kk => z_iconst (pc := 2068) hG kc_1 dL_law_2068 kk) ?_
  refine And.imp_right (fun kk => z_iadd (pc := 2069) hG dL_law_2069 kk) ?_
  refine And.imp_right (fun kk => z_scr (pc := 2070) hG hS 1 (by decide) rfl dL_law_2070 kk) ?_
  refine And.imp_right (fun kk => z_aload_n (pc := 2071) hG 0 rfl rfl dL_law_2071 kk) ?_
  refine And.imp_right (fun kk => z_iload (pc := 2072) hG 4 rfl dL_law_2072 kk) ?_
  refine And.imp_right (fun kk => z_iconst (pc := 2074) hG kc_2 dL_law_2074 kk) ?_
  refine And.imp_right (fun kk => z_iadd (pc := 2075) hG dL_law_2075 kk) ?_
  refine And.imp_right (fun kk => z_scr (pc := 2076) hG hS 2 (by decide) rfl dL_law_2076 kk) ?_
  refine And.imp_right (fun kk => z_aload_n (pc := 2077) hG 3 rfl rfl dL_law_2077 kk) ?_
  replace h := zbind h
  obtain ⟨v1, hv1, h⟩ := h
  replace h := zchk_some h
  obtain ⟨hqv1, h⟩ := h
  refine And.imp_right (fun kk => z_csH (A' := A0 + (C / 64 - g.2.2.2 / 64)) (B' := B0 + 2 * (C - g.2.2.2)) (rest := []) hG hPx [.ref 0, .int (a 1), .int (a 2), .ref 72] (tL_would hl0 (a 1) (a 2) g hv1) zyH_would w1246 w1245 dL_law_2078 rfl (Nat.le_of_ble_eq_true rfl) (by omega) (by omega) rfl (Nat.le_of_ble_eq_true rfl) rfl kk) ?_
  refine zpc (of_decide_eq_true hqv1) ?_
  refine And.imp_right (fun kk => z_istore (pc := 2081) (ls' := [(5, .int v1.1), (0, .ref 950), (1, .ref 0), (2, .ref 42), (3, .ref 72), (4, .int i)]) hG [0, 1, 2, 3, 4, 5] (by decide) rfl dL_law_2081 kk) ?_
  refine And.imp_right (fun kk => z_aload_n (pc := 2083) hG 3 rfl rfl dL_law_2083 kk) ?_
  refine And.imp_right (fun kk => z_aload_n (pc := 2084) hG 1 rfl rfl dL_law_2084 kk) ?_
  refine And.imp_right (fun kk => z_iload (pc := 2085) hG 5 rfl dL_law_2085 kk) ?_
  refine And.imp_right (fun kk => z_iconst (pc := 2087) hG kc_1 dL_law_2087 kk) ?_
  refine And.imp_right (fun kk => z_iadd (pc := 2088) hG dL_law_2088 kk) ?_
  refine And.imp_right (fun kk => z_scr (pc := 2089) hG hS 1 (by decide) rfl dL_law_2089 kk) ?_
  refine And.imp_right (fun kk => z_aload_n (pc := 2090) hG 1 rfl rfl dL_law_2090 kk) ?_
  refine And.imp_right (fun kk => z_iload (pc := 2091) hG 5 rfl dL_law_2091 kk) ?_
  refine And.imp_right (fun kk => z_iconst (pc := 2093) hG kc_2 dL_law_2093 kk) ?_
  refine And.imp_right (fun kk => z_iadd (pc := 2094) hG dL_law_2094 kk) ?_
  refine And.imp_right (fun kk => z_scr (pc := 2095) hG hS 2 (by decide) rfl dL_law_2095 kk) ?_
  replace h := zbind h
  obtain ⟨v2, hv2, h⟩ := h
  replace h := zchk_some h
  obtain ⟨hqv2, h⟩ := h
  refine And.imp_right (fun kk => z_cvI (A' := A0 + (C / 64 - v1.2.2.2.2 / 64)) (B' := B0 + 2 * (C - v1.2.2.2.2)) (nc := 0) (ns := 0) (rest := []) hG [.int (a 1), .int (a 2)] zc_X11 DL_42 (tX11_would hl0 (a 1) (a 2) v1.2 hv2) zy_X11_would ⟨w1953, w1954⟩ w1952 dL_law_2096 rfl (Nat.le_of_ble_eq_true rfl) (by omega) (by omega) rfl (Nat.le_of_ble_eq_true rfl) rfl kk) ?_
  refine zpc (of_decide_eq_true hqv2) ?_
  refine And.imp_right (fun kk => z_istore (pc := 2099) (ls' := [(6, .int v2.1), (5, .int v1.1), (0, .ref 950), (1, .ref 0), (2, .ref 42), (3, .ref 72), (4, .int i)]) hG [0, 1, 2, 3, 4, 5, 6] (by decide) rfl dL_law_2099 kk) ?_
  refine And.imp_right (fun kk => z_aload_n (pc := 2101) hG 4 rfl rfl dL_law_2101 kk) ?_
  replace h := zbind h
  obtain ⟨v3, hv3, h⟩ := h
  refine And.imp_right (fun kk => z_cvI (A' := A0 + (C / 64 - v2.2.2.2.2 / 64)) (B' := B0 + 2 * (C - v2.2.2.2.2)) (nc := 0) (ns := 0) (rest := []) hG [] zc_X11 DL_42 (tX11_thrown hl0  v2.2 hv3) zy_X11_thrown ⟨w1595, w1596⟩ w1594 dL_law_2102 rfl (Nat.le_of_ble_eq_true rfl) (by omega) (by omega) rfl (Nat.le_of_ble_eq_true rfl) rfl kk) ?_
  refine And.imp_right (fun kk => z_iload (pc := 2105) hG 1 rfl dL_law_2105 kk) ?_
  by_cases hc : v3 = v1.1
  rotate_left
  · replace h := zif_f hc h
    cases h
  replace h := zif_t hc h
  refine And.imp_right (fun kk => z_icmp_eq (pc := 2107) (tgt := 2112) hG dL_law_2107 rfl (fun _ => kk) (fun q => (q hc).elim)) ?_
  refine And.imp_right (fun kk => z_iload (pc := 2112) hG 1 rfl dL_law_2112 kk) ?_
  refine zbr (c := v1.1 = 0) (fun hc => ?_) (fun hc => ?_) (fun k1 k2 => z_if_ne (pc := 2114) (tgt := 2129) hG dL_law_2114 rfl k2 k1)
  · replace h := zif_t hc h
    refine And.imp_right (fun kk => z_aload_n (pc := 2117) hG 5 rfl rfl dL_law_2117 kk) ?_
    refine And.imp_right (fun kk => z_iconst (pc := 2118) hG kc_0 dL_law_2118 kk) ?_
    refine And.imp_right (fun kk => z_lald (pc := 2119) hG DL_72 (zin_in (by decide)) dL_law_2119 kk) ?_
    refine And.imp_right (fun kk => z_iload (pc := 2120) hG 0 rfl dL_law_2120 kk) ?_
    refine And.imp_right (fun kk => z_i2l (pc := 2122) hG dL_law_2122 kk) ?_
    refine And.imp_right (fun kk => z_lcmp (pc := 2123) hG dL_law_2123 kk) ?_
    by_cases hc : (lg_cmp (v2.2.2.1 72 (0 : Int32).toNatClampNeg) v2.1.toInt64) = 0
    rotate_left
    · replace h := zif_f hc h
      cases h
    replace h := zif_t hc h
    refine And.imp_right (fun kk => z_if_eq (pc := 2124) (tgt := 2129) hG dL_law_2124 rfl (fun _ => kk) (fun q => (q hc).elim)) ?_
    refine And.imp_right (fun kk => z_goto (pc := 2129) (tgt := 3017) hG dL_law_2129 rfl kk) ?_
    obtain rfl := Option.some.inj h
    refine And.imp_right (fun kk => z_sub (ls' := [(0, .ref 950), (1, .ref 0), (2, .ref 42), (3, .ref 72), (4, .int i)]) [2, 3, 4, 5, 6] rfl kk) ?_
    exact kf
  · replace h := zif_f hc h
    refine And.imp_right (fun kk => z_goto (pc := 2129) (tgt := 3017) hG dL_law_2129 rfl kk) ?_
    obtain rfl := Option.some.inj h
    refine And.imp_right (fun kk => z_sub (ls' := [(0, .ref 950), (1, .ref 0), (2, .ref 42), (3, .ref 72), (4, .int i)]) [2, 3, 4, 5, 6] rfl kk) ?_
    exact kf
noncomputable def nS_32 (a : Nat → Int32) (g : zS) : Option zS :=
  (nL_mend (a 1) (a 2) g).bind fun v1 => zchk (decide (v1.2.2.2.2 = g.2.2.2)) ((nX11_mend (a 1) (a 2) v1.2).bind fun v2 => zchk (decide (v2.2.2.2.2 = v1.2.2.2.2)) ((nX11_thrown v2.2).bind fun v3 => if v3 = v1.1 then (if v1.1 = 0 then (if (lg_cmp (v2.2.2.1 72 (0 : Int32).toNatClampNeg) v2.1.toInt64) = 0 then (some v2.2) else (none)) else (some v2.2)) else (none)))
set_option maxHeartbeats 1000000 in
theorem tS_32 {x : zXx} {i : Int32} {a : Nat → Int32} (hl0 : (zl0 x).flags = flags0) (hG : zG x cL_law 7 RL ret) (hPx : zPx x.2.2.2.2.1) (hS : zScr x i a) {A0 B0 C : Nat} (g : zS) {r : zS} (h : nS_32 a g = some r) (kf : zgr r C ∧ zK x 66 3017 [(0, .ref 950), (1, .ref 0), (2, .ref 42), (3, .ref 72), (4, .int i)] [] zD r (A0 + (C / 64 - r.2.2.2 / 64)) (B0 + 2 * (C - r.2.2.2))) : zgr g C ∧ zK x 66 2132 [(0, .ref 950), (1, .ref 0), (2, .ref 42), (3, .ref 72), (4, .int i)] [] zD g (A0 + 3 + (C / 64 - g.2.2.2 / 64)) (B0 + 18 + 2 * (C - g.2.2.2)) := by
  unfold nS_32 at h
  refine And.imp_right (fun kk => z_aload_n (pc := 2132) hG 1 rfl rfl dL_law_2132 kk) ?_
  refine And.imp_right (fun kk => z_aload_n (pc := 2133) hG 0 rfl rfl dL_law_2133 kk) ?_
  refine And.imp_right (fun kk => z_iload (pc := 2134) hG 4 rfl dL_law_2134 kk) ?_
  refine And.imp_right (fun kk => z_iconst (pc := 2136) hG kc_1 dL_law_2136 kk) ?_
  refine And.imp_right (fun kk => z_iadd (pc := 2137) hG dL_law_2137 kk) ?_
  refine And.imp_right (fun kk => z_scr (pc := 2138) hG hS 1 (by decide) rfl dL_law_2138 kk) ?_
  refine And.imp_right (fun kk => z_aload_n (pc := 2139) hG 0 rfl rfl dL_law_2139 kk) ?_
  refine And.imp_right (fun kk => z_iload (pc := 2140) hG 4 rfl dL_law_2140 kk) ?_
  refine And.imp_right (fun kk => z_iconst (pc := 2142) hG kc_2 dL_law_2142 kk) ?_
  refine And.imp_right (fun kk => z_iadd (pc := 2143) hG dL_law_2143 kk) ?_
  refine And.imp_right (fun kk => z_scr (pc := 2144) hG hS 2 (by decide) rfl dL_law_2144 kk) ?_
  refine And.imp_right (fun kk => z_aload_n (pc := 2145) hG 3 rfl rfl dL_law_2145 kk) ?_
  replace h := zbind h
  obtain ⟨v1, hv1, h⟩ := h
  replace h := zchk_some h
  obtain ⟨hqv1, h⟩ := h
  refine And.imp_right (fun kk => z_csH (A' := A0 + (C / 64 - g.2.2.2 / 64)) (B' := B0 + 2 * (C - g.2.2.2)) (rest := []) hG hPx [.ref 0, .int (a 1), .int (a 2), .ref 72] (tL_mend hl0 (a 1) (a 2) g hv1) zyH_mend w1282 w1281 dL_law_2146 rfl (Nat.le_of_ble_eq_true rfl) (by omega) (by omega) rfl (Nat.le_of_ble_eq_true rfl) rfl kk) ?_
  refine zpc (of_decide_eq_true hqv1) ?_
  refine And.imp_right (fun kk => z_istore (pc := 2149) (ls' := [(5, .int v1.1), (0, .ref 950), (1, .ref 0), (2, .ref 42), (3, .ref 72), (4, .int i)]) hG [0, 1, 2, 3, 4, 5] (by decide) rfl dL_law_2149 kk) ?_
  refine And.imp_right (fun kk => z_aload_n (pc := 2151) hG 3 rfl rfl dL_law_2151 kk) ?_
  refine And.imp_right (fun kk => z_aload_n (pc := 2152) hG 1 rfl rfl dL_law_2152 kk) ?_
  refine And.imp_right (fun kk => z_iload (pc := 2153) hG 5 rfl dL_law_2153 kk) ?_
  refine And.imp_right (fun kk => z_iconst (pc := 2155) hG kc_1 dL_law_2155 kk) ?_
  refine And.imp_right (fun kk => z_iadd (pc := 2156) hG dL_law_2156 kk) ?_
  refine And.imp_right (fun kk => z_scr (pc := 2157) hG hS 1 (by decide) rfl dL_law_2157 kk) ?_
  refine And.imp_right (fun kk => z_aload_n (pc := 2158) hG 1 rfl rfl dL_law_2158 kk) ?_
  refine And.imp_right (fun kk => z_iload (pc := 2159) hG 5 rfl dL_law_2159 kk) ?_
  refine And.imp_right (fun kk => z_iconst (pc := 2161) hG kc_2 dL_law_2161 kk) ?_
  refine And.imp_right (fun kk => z_iadd (pc := 2162) hG dL_law_2162 kk) ?_
  refine And.imp_right (fun kk => z_scr (pc := 2163) hG hS 2 (by decide) rfl dL_law_2163 kk) ?_
  replace h := zbind h
  obtain ⟨v2, hv2, h⟩ := h
  replace h := zchk_some h
  obtain ⟨hqv2, h⟩ := h
  refine And.imp_right (fun kk => z_cvI (A' := A0 + (C / 64 - v1.2.2.2.2 / 64)) (B' := B0 + 2 * (C - v1.2.2.2.2)) (nc := 0) (ns := 0) (rest := []) hG [.int (a 1), .int (a 2)] zc_X11 DL_42 (tX11_mend hl0 (a 1) (a 2) v1.2 hv2) zy_X11_mend ⟨w1964, w1965⟩ w1963 dL_law_2164 rfl (Nat.le_of_ble_eq_true rfl) (by omega) (by omega) rfl (Nat.le_of_ble_eq_true rfl) rfl kk) ?_
  refine zpc (of_decide_eq_true hqv2) ?_
  refine And.imp_right (fun kk => z_istore (pc := 2167) (ls' := [(6, .int v2.1), (5, .int v1.1), (0, .ref 950), (1, .ref 0), (2, .ref 42), (3, .ref 72), (4, .int i)]) hG [0, 1, 2, 3, 4, 5, 6] (by decide) rfl dL_law_2167 kk) ?_
  refine And.imp_right (fun kk => z_aload_n (pc := 2169) hG 4 rfl rfl dL_law_2169 kk) ?_
  replace h := zbind h
  obtain ⟨v3, hv3, h⟩ := h
  refine And.imp_right (fun kk => z_cvI (A' := A0 + (C / 64 - v2.2.2.2.2 / 64)) (B' := B0 + 2 * (C - v2.2.2.2.2)) (nc := 0) (ns := 0) (rest := []) hG [] zc_X11 DL_42 (tX11_thrown hl0  v2.2 hv3) zy_X11_thrown ⟨w1595, w1596⟩ w1594 dL_law_2170 rfl (Nat.le_of_ble_eq_true rfl) (by omega) (by omega) rfl (Nat.le_of_ble_eq_true rfl) rfl kk) ?_
  refine And.imp_right (fun kk => z_iload (pc := 2173) hG 1 rfl dL_law_2173 kk) ?_
  by_cases hc : v3 = v1.1
  rotate_left
  · replace h := zif_f hc h
    cases h
  replace h := zif_t hc h
  refine And.imp_right (fun kk => z_icmp_eq (pc := 2175) (tgt := 2180) hG dL_law_2175 rfl (fun _ => kk) (fun q => (q hc).elim)) ?_
  refine And.imp_right (fun kk => z_iload (pc := 2180) hG 1 rfl dL_law_2180 kk) ?_
  refine zbr (c := v1.1 = 0) (fun hc => ?_) (fun hc => ?_) (fun k1 k2 => z_if_ne (pc := 2182) (tgt := 2197) hG dL_law_2182 rfl k2 k1)
  · replace h := zif_t hc h
    refine And.imp_right (fun kk => z_aload_n (pc := 2185) hG 5 rfl rfl dL_law_2185 kk) ?_
    refine And.imp_right (fun kk => z_iconst (pc := 2186) hG kc_0 dL_law_2186 kk) ?_
    refine And.imp_right (fun kk => z_lald (pc := 2187) hG DL_72 (zin_in (by decide)) dL_law_2187 kk) ?_
    refine And.imp_right (fun kk => z_iload (pc := 2188) hG 0 rfl dL_law_2188 kk) ?_
    refine And.imp_right (fun kk => z_i2l (pc := 2190) hG dL_law_2190 kk) ?_
    refine And.imp_right (fun kk => z_lcmp (pc := 2191) hG dL_law_2191 kk) ?_
    by_cases hc : (lg_cmp (v2.2.2.1 72 (0 : Int32).toNatClampNeg) v2.1.toInt64) = 0
    rotate_left
    · replace h := zif_f hc h
      cases h
    replace h := zif_t hc h
    refine And.imp_right (fun kk => z_if_eq (pc := 2192) (tgt := 2197) hG dL_law_2192 rfl (fun _ => kk) (fun q => (q hc).elim)) ?_
    refine And.imp_right (fun kk => z_goto (pc := 2197) (tgt := 3017) hG dL_law_2197 rfl kk) ?_
    obtain rfl := Option.some.inj h
    refine And.imp_right (fun kk => z_sub (ls' := [(0, .ref 950), (1, .ref 0), (2, .ref 42), (3, .ref 72), (4, .int i)]) [2, 3, 4, 5, 6] rfl kk) ?_
    exact kf
  · replace h := zif_f hc h
    refine And.imp_right (fun kk => z_goto (pc := 2197) (tgt := 3017) hG dL_law_2197 rfl kk) ?_
    obtain rfl := Option.some.inj h
    refine And.imp_right (fun kk => z_sub (ls' := [(0, .ref 950), (1, .ref 0), (2, .ref 42), (3, .ref 72), (4, .int i)]) [2, 3, 4, 5, 6] rfl kk) ?_
    exact kf
noncomputable def nS_33 (a : Nat → Int32) (g : zS) : Option zS :=
  (nL_mendAll (a 1) g).bind fun v1 => zchk (decide (v1.2.2.2.2 = g.2.2.2)) ((nX11_mendAll (a 1) v1.2).bind fun v2 => zchk (decide (v2.2.2.2.2 = v1.2.2.2.2)) ((nX11_thrown v2.2).bind fun v3 => if v3 = v1.1 then (if v1.1 = 0 then (if (lg_cmp (v2.2.2.1 72 (0 : Int32).toNatClampNeg) v2.1.toInt64) = 0 then (some v2.2) else (none)) else (some v2.2)) else (none)))
set_option maxHeartbeats 1000000 in
theorem tS_33 {x : zXx} {i : Int32} {a : Nat → Int32} (hl0 : (zl0 x).flags = flags0) (hG : zG x cL_law 7 RL ret) (hPx : zPx x.2.2.2.2.1) (hS : zScr x i a) {A0 B0 C : Nat} (g : zS) {r : zS} (h : nS_33 a g = some r) (kf : zgr r C ∧ zK x 66 3017 [(0, .ref 950), (1, .ref 0), (2, .ref 42), (3, .ref 72), (4, .int i)] [] zD r (A0 + (C / 64 - r.2.2.2 / 64)) (B0 + 2 * (C - r.2.2.2))) : zgr g C ∧ zK x 66 2200 [(0, .ref 950), (1, .ref 0), (2, .ref 42), (3, .ref 72), (4, .int i)] [] zD g (A0 + 1 + (C / 64 - g.2.2.2 / 64)) (B0 + 6 + 2 * (C - g.2.2.2)) := by
  unfold nS_33 at h
  refine And.imp_right (fun kk => z_aload_n (pc := 2200) hG 1 rfl rfl dL_law_2200 kk) ?_
  refine And.imp_right (fun kk => z_aload_n (pc := 2201) hG 0 rfl rfl dL_law_2201 kk) ?_
  refine And.imp_right (fun kk => z_iload (pc := 2202) hG 4 rfl dL_law_2202 kk) ?_
  refine And.imp_right (fun kk => z_iconst (pc := 2204) hG kc_1 dL_law_2204 kk) ?_
  refine And.imp_right (fun kk => z_iadd (pc := 2205) hG dL_law_2205 kk) ?_
  refine And.imp_right (fun kk => z_scr (pc := 2206) hG hS 1 (by decide) rfl dL_law_2206 kk) ?_
  refine And.imp_right (fun kk => z_aload_n (pc := 2207) hG 3 rfl rfl dL_law_2207 kk) ?_
  replace h := zbind h
  obtain ⟨v1, hv1, h⟩ := h
  replace h := zchk_some h
  obtain ⟨hqv1, h⟩ := h
  refine And.imp_right (fun kk => z_csH (A' := A0 + (C / 64 - g.2.2.2 / 64)) (B' := B0 + 2 * (C - g.2.2.2)) (rest := []) hG hPx [.ref 0, .int (a 1), .ref 72] (tL_mendAll hl0 (a 1) g hv1) zyH_mendAll w1294 w1293 dL_law_2208 rfl (Nat.le_of_ble_eq_true rfl) (by omega) (by omega) rfl (Nat.le_of_ble_eq_true rfl) rfl kk) ?_
  refine zpc (of_decide_eq_true hqv1) ?_
  refine And.imp_right (fun kk => z_istore (pc := 2211) (ls' := [(5, .int v1.1), (0, .ref 950), (1, .ref 0), (2, .ref 42), (3, .ref 72), (4, .int i)]) hG [0, 1, 2, 3, 4, 5] (by decide) rfl dL_law_2211 kk) ?_
  refine And.imp_right (fun kk => z_aload_n (pc := 2213) hG 3 rfl rfl dL_law_2213 kk) ?_
  refine And.imp_right (fun kk => z_aload_n (pc := 2214) hG 1 rfl rfl dL_law_2214 kk) ?_
  refine And.imp_right (fun kk => z_iload (pc := 2215) hG 5 rfl dL_law_2215 kk) ?_
  refine And.imp_right (fun kk => z_iconst (pc := 2217) hG kc_1 dL_law_2217 kk) ?_
  refine And.imp_right (fun kk => z_iadd (pc := 2218) hG dL_law_2218 kk) ?_
  refine And.imp_right (fun kk => z_scr (pc := 2219) hG hS 1 (by decide) rfl dL_law_2219 kk) ?_
  replace h := zbind h
  obtain ⟨v2, hv2, h⟩ := h
  replace h := zchk_some h
  obtain ⟨hqv2, h⟩ := h
  refine And.imp_right (fun kk => z_cvI (A' := A0 + (C / 64 - v1.2.2.2.2 / 64)) (B' := B0 + 2 * (C - v1.2.2.2.2)) (nc := 0) (ns := 0) (rest := []) hG [.int (a 1)] zc_X11 DL_42 (tX11_mendAll hl0 (a 1) v1.2 hv2) zy_X11_mendAll ⟨w1976, w1977⟩ w1975 dL_law_2220 rfl (Nat.le_of_ble_eq_true rfl) (by omega) (by omega) rfl (Nat.le_of_ble_eq_true rfl) rfl kk) ?_
  refine zpc (of_decide_eq_true hqv2) ?_
  refine And.imp_right (fun kk => z_istore (pc := 2223) (ls' := [(6, .int v2.1), (5, .int v1.1), (0, .ref 950), (1, .ref 0), (2, .ref 42), (3, .ref 72), (4, .int i)]) hG [0, 1, 2, 3, 4, 5, 6] (by decide) rfl dL_law_2223 kk) ?_
  refine And.imp_right (fun kk => z_aload_n (pc := 2225) hG 4 rfl rfl dL_law_2225 kk) ?_
  replace h := zbind h
  obtain ⟨v3, hv3, h⟩ := h
  refine And.imp_right (fun kk => z_cvI (A' := A0 + (C / 64 - v2.2.2.2.2 / 64)) (B' := B0 + 2 * (C - v2.2.2.2.2)) (nc := 0) (ns := 0) (rest := []) hG [] zc_X11 DL_42 (tX11_thrown hl0  v2.2 hv3) zy_X11_thrown ⟨w1595, w1596⟩ w1594 dL_law_2226 rfl (Nat.le_of_ble_eq_true rfl) (by omega) (by omega) rfl (Nat.le_of_ble_eq_true rfl) rfl kk) ?_
  refine And.imp_right (fun kk => z_iload (pc := 2229) hG 1 rfl dL_law_2229 kk) ?_
  by_cases hc : v3 = v1.1
  rotate_left
  · replace h := zif_f hc h
    cases h
  replace h := zif_t hc h
  refine And.imp_right (fun kk => z_icmp_eq (pc := 2231) (tgt := 2236) hG dL_law_2231 rfl (fun _ => kk) (fun q => (q hc).elim)) ?_
  refine And.imp_right (fun kk => z_iload (pc := 2236) hG 1 rfl dL_law_2236 kk) ?_
  refine zbr (c := v1.1 = 0) (fun hc => ?_) (fun hc => ?_) (fun k1 k2 => z_if_ne (pc := 2238) (tgt := 2253) hG dL_law_2238 rfl k2 k1)
  · replace h := zif_t hc h
    refine And.imp_right (fun kk => z_aload_n (pc := 2241) hG 5 rfl rfl dL_law_2241 kk) ?_
    refine And.imp_right (fun kk => z_iconst (pc := 2242) hG kc_0 dL_law_2242 kk) ?_
    refine And.imp_right (fun kk => z_lald (pc := 2243) hG DL_72 (zin_in (by decide)) dL_law_2243 kk) ?_
    refine And.imp_right (fun kk => z_iload (pc := 2244) hG 0 rfl dL_law_2244 kk) ?_
    refine And.imp_right (fun kk => z_i2l (pc := 2246) hG dL_law_2246 kk) ?_
    refine And.imp_right (fun kk => z_lcmp (pc := 2247) hG dL_law_2247 kk) ?_
    by_cases hc : (lg_cmp (v2.2.2.1 72 (0 : Int32).toNatClampNeg) v2.1.toInt64) = 0
    rotate_left
    · replace h := zif_f hc h
      cases h
    replace h := zif_t hc h
    refine And.imp_right (fun kk => z_if_eq (pc := 2248) (tgt := 2253) hG dL_law_2248 rfl (fun _ => kk) (fun q => (q hc).elim)) ?_
    refine And.imp_right (fun kk => z_goto (pc := 2253) (tgt := 3017) hG dL_law_2253 rfl kk) ?_
    obtain rfl := Option.some.inj h
    refine And.imp_right (fun kk => z_sub (ls' := [(0, .ref 950), (1, .ref 0), (2, .ref 42), (3, .ref 72), (4, .int i)]) [2, 3, 4, 5, 6] rfl kk) ?_
    exact kf
  · replace h := zif_f hc h
    refine And.imp_right (fun kk => z_goto (pc := 2253) (tgt := 3017) hG dL_law_2253 rfl kk) ?_
    obtain rfl := Option.some.inj h
    refine And.imp_right (fun kk => z_sub (ls' := [(0, .ref 950), (1, .ref 0), (2, .ref 42), (3, .ref 72), (4, .int i)]) [2, 3, 4, 5, 6] rfl kk) ?_
    exact kf
noncomputable def nS_34 (a : Nat → Int32) (g : zS) : Option zS :=
  (nL_trial (a 1) (a 2) g).bind fun v1 => zchk (decide (v1.2.2.2.2 = g.2.2.2)) ((nX11_trial (a 1) (a 2) v1.2).bind fun v2 => zchk (decide (v2.2.2.2.2 = v1.2.2.2.2)) ((nX11_thrown v2.2).bind fun v3 => if v3 = v1.1 then (if v1.1 = 0 then (if (lg_cmp (v2.2.2.1 72 (0 : Int32).toNatClampNeg) v2.1.toInt64) = 0 then (some v2.2) else (none)) else (some v2.2)) else (none)))
set_option maxHeartbeats 1000000 in
theorem tS_34 {x : zXx} {i : Int32} {a : Nat → Int32} (hl0 : (zl0 x).flags = flags0) (hG : zG x cL_law 7 RL ret) (hPx : zPx x.2.2.2.2.1) (hS : zScr x i a) {A0 B0 C : Nat} (g : zS) {r : zS} (h : nS_34 a g = some r) (kf : zgr r C ∧ zK x 66 3017 [(0, .ref 950), (1, .ref 0), (2, .ref 42), (3, .ref 72), (4, .int i)] [] zD r (A0 + (C / 64 - r.2.2.2 / 64)) (B0 + 2 * (C - r.2.2.2))) : zgr g C ∧ zK x 66 2256 [(0, .ref 950), (1, .ref 0), (2, .ref 42), (3, .ref 72), (4, .int i)] [] zD g (A0 + 2 + (C / 64 - g.2.2.2 / 64)) (B0 + 12 + 2 * (C - g.2.2.2)) := by
  unfold nS_34 at h
  refine And.imp_right (fun kk => z_aload_n (pc := 2256) hG 1 rfl rfl dL_law_2256 kk) ?_
  refine And.imp_right (fun kk => z_aload_n (pc := 2257) hG 0 rfl rfl dL_law_2257 kk) ?_
  refine And.imp_right (fun kk => z_iload (pc := 2258) hG 4 rfl dL_law_2258 kk) ?_
  refine And.imp_right (fun kk => z_iconst (pc := 2260) hG kc_1 dL_law_2260 kk) ?_
  refine And.imp_right (fun kk => z_iadd (pc := 2261) hG dL_law_2261 kk) ?_
  refine And.imp_right (fun kk => z_scr (pc := 2262) hG hS 1 (by decide) rfl dL_law_2262 kk) ?_
  refine And.imp_right (fun kk => z_aload_n (pc := 2263) hG 0 rfl rfl dL_law_2263 kk) ?_
  refine And.imp_right (fun kk => z_iload (pc := 2264) hG 4 rfl dL_law_2264 kk) ?_
  refine And.imp_right (fun kk => z_iconst (pc := 2266) hG kc_2 dL_law_2266 kk) ?_
  refine And.imp_right (fun kk => z_iadd (pc := 2267) hG dL_law_2267 kk) ?_
  refine And.imp_right (fun kk => z_scr (pc := 2268) hG hS 2 (by decide) rfl dL_law_2268 kk) ?_
  refine And.imp_right (fun kk => z_aload_n (pc := 2269) hG 3 rfl rfl dL_law_2269 kk) ?_
  replace h := zbind h
  obtain ⟨v1, hv1, h⟩ := h
  replace h := zchk_some h
  obtain ⟨hqv1, h⟩ := h
  refine And.imp_right (fun kk => z_csH (A' := A0 + (C / 64 - g.2.2.2 / 64)) (B' := B0 + 2 * (C - g.2.2.2)) (rest := []) hG hPx [.ref 0, .int (a 1), .int (a 2), .ref 72] (tL_trial hl0 (a 1) (a 2) g hv1) zyH_trial w1306 w1305 dL_law_2270 rfl (Nat.le_of_ble_eq_true rfl) (by omega) (by omega) rfl (Nat.le_of_ble_eq_true rfl) rfl kk) ?_
  refine zpc (of_decide_eq_true hqv1) ?_
  refine And.imp_right (fun kk => z_istore (pc := 2273) (ls' := [(5, .int v1.1), (0, .ref 950), (1, .ref 0), (2, .ref 42), (3, .ref 72), (4, .int i)]) hG [0, 1, 2, 3, 4, 5] (by decide) rfl dL_law_2273 kk) ?_
  refine And.imp_right (fun kk => z_aload_n (pc := 2275) hG 3 rfl rfl dL_law_2275 kk) ?_
  refine And.imp_right (fun kk => z_aload_n (pc := 2276) hG 1 rfl rfl dL_law_2276 kk) ?_
  refine And.imp_right (fun kk => z_iload (pc := 2277) hG 5 rfl dL_law_2277 kk) ?_
  refine And.imp_right (fun kk => z_iconst (pc := 2279) hG kc_1 dL_law_2279 kk) ?_
  refine And.imp_right (fun kk => z_iadd (pc := 2280) hG dL_law_2280 kk) ?_
  refine And.imp_right (fun kk => z_scr (pc := 2281) hG hS 1 (by decide) rfl dL_law_2281 kk) ?_
  refine And.imp_right (fun kk => z_aload_n (pc := 2282) hG 1 rfl rfl dL_law_2282 kk) ?_
  refine And.imp_right (fun kk => z_iload (pc := 2283) hG 5 rfl dL_law_2283 kk) ?_
  refine And.imp_right (fun kk => z_iconst (pc := 2285) hG kc_2 dL_law_2285 kk) ?_
  refine And.imp_right (fun kk => z_iadd (pc := 2286) hG dL_law_2286 kk) ?_
  refine And.imp_right (fun kk => z_scr (pc := 2287) hG hS 2 (by decide) rfl dL_law_2287 kk) ?_
  replace h := zbind h
  obtain ⟨v2, hv2, h⟩ := h
  replace h := zchk_some h
  obtain ⟨hqv2, h⟩ := h
  refine And.imp_right (fun kk => z_cvI (A' := A0 + (C / 64 - v1.2.2.2.2 / 64)) (B' := B0 + 2 * (C - v1.2.2.2.2)) (nc := 0) (ns := 0) (rest := []) hG [.int (a 1), .int (a 2)] zc_X11 DL_42 (tX11_trial hl0 (a 1) (a 2) v1.2 hv2) zy_X11_trial ⟨w1984, w1985⟩ w1983 dL_law_2288 rfl (Nat.le_of_ble_eq_true rfl) (by omega) (by omega) rfl (Nat.le_of_ble_eq_true rfl) rfl kk) ?_
  refine zpc (of_decide_eq_true hqv2) ?_
  refine And.imp_right (fun kk => z_istore (pc := 2291) (ls' := [(6, .int v2.1), (5, .int v1.1), (0, .ref 950), (1, .ref 0), (2, .ref 42), (3, .ref 72), (4, .int i)]) hG [0, 1, 2, 3, 4, 5, 6] (by decide) rfl dL_law_2291 kk) ?_
  refine And.imp_right (fun kk => z_aload_n (pc := 2293) hG 4 rfl rfl dL_law_2293 kk) ?_
  replace h := zbind h
  obtain ⟨v3, hv3, h⟩ := h
  refine And.imp_right (fun kk => z_cvI (A' := A0 + (C / 64 - v2.2.2.2.2 / 64)) (B' := B0 + 2 * (C - v2.2.2.2.2)) (nc := 0) (ns := 0) (rest := []) hG [] zc_X11 DL_42 (tX11_thrown hl0  v2.2 hv3) zy_X11_thrown ⟨w1595, w1596⟩ w1594 dL_law_2294 rfl (Nat.le_of_ble_eq_true rfl) (by omega) (by omega) rfl (Nat.le_of_ble_eq_true rfl) rfl kk) ?_
  refine And.imp_right (fun kk => z_iload (pc := 2297) hG 1 rfl dL_law_2297 kk) ?_
  by_cases hc : v3 = v1.1
  rotate_left
  · replace h := zif_f hc h
    cases h
  replace h := zif_t hc h
  refine And.imp_right (fun kk => z_icmp_eq (pc := 2299) (tgt := 2304) hG dL_law_2299 rfl (fun _ => kk) (fun q => (q hc).elim)) ?_
  refine And.imp_right (fun kk => z_iload (pc := 2304) hG 1 rfl dL_law_2304 kk) ?_
  refine zbr (c := v1.1 = 0) (fun hc => ?_) (fun hc => ?_) (fun k1 k2 => z_if_ne (pc := 2306) (tgt := 2321) hG dL_law_2306 rfl k2 k1)
  · replace h := zif_t hc h
    refine And.imp_right (fun kk => z_aload_n (pc := 2309) hG 5 rfl rfl dL_law_2309 kk) ?_
    refine And.imp_right (fun kk => z_iconst (pc := 2310) hG kc_0 dL_law_2310 kk) ?_
    refine And.imp_right (fun kk => z_lald (pc := 2311) hG DL_72 (zin_in (by decide)) dL_law_2311 kk) ?_
    refine And.imp_right (fun kk => z_iload (pc := 2312) hG 0 rfl dL_law_2312 kk) ?_
    refine And.imp_right (fun kk => z_i2l (pc := 2314) hG dL_law_2314 kk) ?_
    refine And.imp_right (fun kk => z_lcmp (pc := 2315) hG dL_law_2315 kk) ?_
    by_cases hc : (lg_cmp (v2.2.2.1 72 (0 : Int32).toNatClampNeg) v2.1.toInt64) = 0
    rotate_left
    · replace h := zif_f hc h
      cases h
    replace h := zif_t hc h
    refine And.imp_right (fun kk => z_if_eq (pc := 2316) (tgt := 2321) hG dL_law_2316 rfl (fun _ => kk) (fun q => (q hc).elim)) ?_
    refine And.imp_right (fun kk => z_goto (pc := 2321) (tgt := 3017) hG dL_law_2321 rfl kk) ?_
    obtain rfl := Option.some.inj h
    refine And.imp_right (fun kk => z_sub (ls' := [(0, .ref 950), (1, .ref 0), (2, .ref 42), (3, .ref 72), (4, .int i)]) [2, 3, 4, 5, 6] rfl kk) ?_
    exact kf
  · replace h := zif_f hc h
    refine And.imp_right (fun kk => z_goto (pc := 2321) (tgt := 3017) hG dL_law_2321 rfl kk) ?_
    obtain rfl := Option.some.inj h
    refine And.imp_right (fun kk => z_sub (ls' := [(0, .ref 950), (1, .ref 0), (2, .ref 42), (3, .ref 72), (4, .int i)]) [2, 3, 4, 5, 6] rfl kk) ?_
    exact kf
noncomputable def nS_35 (a : Nat → Int32) (g : zS) : Option zS :=
  (nX10_undo g).bind fun v1 => zchk (decide (v1.2.2.2.2 = g.2.2.2)) ((nX11_undo v1.2).bind fun v2 => zchk (decide (v2.2.2.2.2 = v1.2.2.2.2)) (if v1.1 = v2.1 then (some v2.2) else (none)))
set_option maxHeartbeats 1000000 in
theorem tS_35 {x : zXx} {i : Int32} {a : Nat → Int32} (hl0 : (zl0 x).flags = flags0) (hG : zG x cL_law 7 RL ret) (hPx : zPx x.2.2.2.2.1) (hS : zScr x i a) {A0 B0 C : Nat} (g : zS) {r : zS} (h : nS_35 a g = some r) (kf : zgr r C ∧ zK x 66 3017 [(0, .ref 950), (1, .ref 0), (2, .ref 42), (3, .ref 72), (4, .int i)] [] zD r (A0 + (C / 64 - r.2.2.2 / 64)) (B0 + 2 * (C - r.2.2.2))) : zgr g C ∧ zK x 66 2324 [(0, .ref 950), (1, .ref 0), (2, .ref 42), (3, .ref 72), (4, .int i)] [] zD g (A0 + 0 + (C / 64 - g.2.2.2 / 64)) (B0 + 0 + 2 * (C - g.2.2.2)) := by
  unfold nS_35 at h
  refine And.imp_right (fun kk => z_aload_n (pc := 2324) hG 1 rfl rfl dL_law_2324 kk) ?_
  replace h := zbind h
  obtain ⟨v1, hv1, h⟩ := h
  replace h := zchk_some h
  obtain ⟨hqv1, h⟩ := h
  refine And.imp_right (fun kk => z_cvI (A' := A0 + (C / 64 - g.2.2.2 / 64)) (B' := B0 + 2 * (C - g.2.2.2)) (nc := 0) (ns := 0) (rest := []) hG [] zc_X10 DL_0 (tX10_undo hl0  g hv1) zy_X10_undo ⟨w484, w485⟩ w483 dL_law_2325 rfl (Nat.le_of_ble_eq_true rfl) (by omega) (by omega) rfl (Nat.le_of_ble_eq_true rfl) rfl kk) ?_
  refine zpc (of_decide_eq_true hqv1) ?_
  refine And.imp_right (fun kk => z_aload_n (pc := 2328) hG 2 rfl rfl dL_law_2328 kk) ?_
  replace h := zbind h
  obtain ⟨v2, hv2, h⟩ := h
  replace h := zchk_some h
  obtain ⟨hqv2, h⟩ := h
  refine And.imp_right (fun kk => z_cvI (A' := A0 + (C / 64 - v1.2.2.2.2 / 64)) (B' := B0 + 2 * (C - v1.2.2.2.2)) (nc := 0) (ns := 0) (rest := [.int v1.1]) hG [] zc_X11 DL_42 (tX11_undo hl0  v1.2 hv2) zy_X11_undo ⟨w1988, w1989⟩ w1987 dL_law_2329 rfl (Nat.le_of_ble_eq_true rfl) (by omega) (by omega) rfl (Nat.le_of_ble_eq_true rfl) rfl kk) ?_
  refine zpc (of_decide_eq_true hqv2) ?_
  by_cases hc : v1.1 = v2.1
  rotate_left
  · replace h := zif_f hc h
    cases h
  replace h := zif_t hc h
  refine And.imp_right (fun kk => z_icmp_eq (pc := 2332) (tgt := 3017) hG dL_law_2332 rfl (fun _ => kk) (fun q => (q hc).elim)) ?_
  obtain rfl := Option.some.inj h
  exact kf
noncomputable def nS_36 (a : Nat → Int32) (g : zS) : Option zS :=
  (nL_pattern (a 1) (a 2) g).bind fun v1 => zchk (decide (v1.2.2.2.2 = g.2.2.2)) ((nX11_pattern (a 1) (a 2) v1.2).bind fun v2 => zchk (decide (v2.2.2.2.2 = v1.2.2.2.2)) ((nX11_thrown v2.2).bind fun v3 => if v3 = v1.1 then (if v1.1 = 0 then (if (lg_cmp (v2.2.2.1 72 (0 : Int32).toNatClampNeg) v2.1.toInt64) = 0 then (some v2.2) else (none)) else (some v2.2)) else (none)))
set_option maxHeartbeats 1000000 in
theorem tS_36 {x : zXx} {i : Int32} {a : Nat → Int32} (hl0 : (zl0 x).flags = flags0) (hG : zG x cL_law 7 RL ret) (hPx : zPx x.2.2.2.2.1) (hS : zScr x i a) {A0 B0 C : Nat} (g : zS) {r : zS} (h : nS_36 a g = some r) (kf : zgr r C ∧ zK x 66 3017 [(0, .ref 950), (1, .ref 0), (2, .ref 42), (3, .ref 72), (4, .int i)] [] zD r (A0 + (C / 64 - r.2.2.2 / 64)) (B0 + 2 * (C - r.2.2.2))) : zgr g C ∧ zK x 66 2337 [(0, .ref 950), (1, .ref 0), (2, .ref 42), (3, .ref 72), (4, .int i)] [] zD g (A0 + 1 + (C / 64 - g.2.2.2 / 64)) (B0 + 6 + 2 * (C - g.2.2.2)) := by
  unfold nS_36 at h
  refine And.imp_right (fun kk => z_aload_n (pc := 2337) hG 1 rfl rfl dL_law_2337 kk) ?_
  refine And.imp_right (fun kk => z_aload_n (pc := 2338) hG 0 rfl rfl dL_law_2338 kk) ?_
  refine And.imp_right (fun kk => z_iload (pc := 2339) hG 4 rfl dL_law_2339 kk) ?_
  refine And.imp_right (fun kk => z_iconst (pc := 2341) hG kc_1 dL_law_2341 kk) ?_
  refine And.imp_right (fun kk => z_iadd (pc := 2342) hG dL_law_2342 kk) ?_
  refine And.imp_right (fun kk => z_scr (pc := 2343) hG hS 1 (by decide) rfl dL_law_2343 kk) ?_
  refine And.imp_right (fun kk => z_aload_n (pc := 2344) hG 0 rfl rfl dL_law_2344 kk) ?_
  refine And.imp_right (fun kk => z_iload (pc := 2345) hG 4 rfl dL_law_2345 kk) ?_
  refine And.imp_right (fun kk => z_iconst (pc := 2347) hG kc_2 dL_law_2347 kk) ?_
  refine And.imp_right (fun kk => z_iadd (pc := 2348) hG dL_law_2348 kk) ?_
  refine And.imp_right (fun kk => z_scr (pc := 2349) hG hS 2 (by decide) rfl dL_law_2349 kk) ?_
  refine And.imp_right (fun kk => z_aload_n (pc := 2350) hG 3 rfl rfl dL_law_2350 kk) ?_
  replace h := zbind h
  obtain ⟨v1, hv1, h⟩ := h
  replace h := zchk_some h
  obtain ⟨hqv1, h⟩ := h
  refine And.imp_right (fun kk => z_csH (A' := A0 + (C / 64 - g.2.2.2 / 64)) (B' := B0 + 2 * (C - g.2.2.2)) (rest := []) hG hPx [.ref 0, .int (a 1), .int (a 2), .ref 72] (tL_pattern hl0 (a 1) (a 2) g hv1) zyH_pattern w1313 w1312 dL_law_2351 rfl (Nat.le_of_ble_eq_true rfl) (by omega) (by omega) rfl (Nat.le_of_ble_eq_true rfl) rfl kk) ?_
  refine zpc (of_decide_eq_true hqv1) ?_
  refine And.imp_right (fun kk => z_istore (pc := 2354) (ls' := [(5, .int v1.1), (0, .ref 950), (1, .ref 0), (2, .ref 42), (3, .ref 72), (4, .int i)]) hG [0, 1, 2, 3, 4, 5] (by decide) rfl dL_law_2354 kk) ?_
  refine And.imp_right (fun kk => z_aload_n (pc := 2356) hG 3 rfl rfl dL_law_2356 kk) ?_
  refine And.imp_right (fun kk => z_aload_n (pc := 2357) hG 1 rfl rfl dL_law_2357 kk) ?_
  refine And.imp_right (fun kk => z_iload (pc := 2358) hG 5 rfl dL_law_2358 kk) ?_
  refine And.imp_right (fun kk => z_iconst (pc := 2360) hG kc_1 dL_law_2360 kk) ?_
  refine And.imp_right (fun kk => z_iadd (pc := 2361) hG dL_law_2361 kk) ?_
  refine And.imp_right (fun kk => z_scr (pc := 2362) hG hS 1 (by decide) rfl dL_law_2362 kk) ?_
  refine And.imp_right (fun kk => z_aload_n (pc := 2363) hG 1 rfl rfl dL_law_2363 kk) ?_
  refine And.imp_right (fun kk => z_iload (pc := 2364) hG 5 rfl dL_law_2364 kk) ?_
  refine And.imp_right (fun kk => z_iconst (pc := 2366) hG kc_2 dL_law_2366 kk) ?_
  refine And.imp_right (fun kk => z_iadd (pc := 2367) hG dL_law_2367 kk) ?_
  refine And.imp_right (fun kk => z_scr (pc := 2368) hG hS 2 (by decide) rfl dL_law_2368 kk) ?_
  replace h := zbind h
  obtain ⟨v2, hv2, h⟩ := h
  replace h := zchk_some h
  obtain ⟨hqv2, h⟩ := h
  refine And.imp_right (fun kk => z_cvI (A' := A0 + (C / 64 - v1.2.2.2.2 / 64)) (B' := B0 + 2 * (C - v1.2.2.2.2)) (nc := 0) (ns := 0) (rest := []) hG [.int (a 1), .int (a 2)] zc_X11 DL_42 (tX11_pattern hl0 (a 1) (a 2) v1.2 hv2) zy_X11_pattern ⟨w1992, w1993⟩ w1991 dL_law_2369 rfl (Nat.le_of_ble_eq_true rfl) (by omega) (by omega) rfl (Nat.le_of_ble_eq_true rfl) rfl kk) ?_
  refine zpc (of_decide_eq_true hqv2) ?_
  refine And.imp_right (fun kk => z_istore (pc := 2372) (ls' := [(6, .int v2.1), (5, .int v1.1), (0, .ref 950), (1, .ref 0), (2, .ref 42), (3, .ref 72), (4, .int i)]) hG [0, 1, 2, 3, 4, 5, 6] (by decide) rfl dL_law_2372 kk) ?_
  refine And.imp_right (fun kk => z_aload_n (pc := 2374) hG 4 rfl rfl dL_law_2374 kk) ?_
  replace h := zbind h
  obtain ⟨v3, hv3, h⟩ := h
  refine And.imp_right (fun kk => z_cvI (A' := A0 + (C / 64 - v2.2.2.2.2 / 64)) (B' := B0 + 2 * (C - v2.2.2.2.2)) (nc := 0) (ns := 0) (rest := []) hG [] zc_X11 DL_42 (tX11_thrown hl0  v2.2 hv3) zy_X11_thrown ⟨w1595, w1596⟩ w1594 dL_law_2375 rfl (Nat.le_of_ble_eq_true rfl) (by omega) (by omega) rfl (Nat.le_of_ble_eq_true rfl) rfl kk) ?_
  refine And.imp_right (fun kk => z_iload (pc := 2378) hG 1 rfl dL_law_2378 kk) ?_
  by_cases hc : v3 = v1.1
  rotate_left
  · replace h := zif_f hc h
    cases h
  replace h := zif_t hc h
  refine And.imp_right (fun kk => z_icmp_eq (pc := 2380) (tgt := 2385) hG dL_law_2380 rfl (fun _ => kk) (fun q => (q hc).elim)) ?_
  refine And.imp_right (fun kk => z_iload (pc := 2385) hG 1 rfl dL_law_2385 kk) ?_
  refine zbr (c := v1.1 = 0) (fun hc => ?_) (fun hc => ?_) (fun k1 k2 => z_if_ne (pc := 2387) (tgt := 2402) hG dL_law_2387 rfl k2 k1)
  · replace h := zif_t hc h
    refine And.imp_right (fun kk => z_aload_n (pc := 2390) hG 5 rfl rfl dL_law_2390 kk) ?_
    refine And.imp_right (fun kk => z_iconst (pc := 2391) hG kc_0 dL_law_2391 kk) ?_
    refine And.imp_right (fun kk => z_lald (pc := 2392) hG DL_72 (zin_in (by decide)) dL_law_2392 kk) ?_
    refine And.imp_right (fun kk => z_iload (pc := 2393) hG 0 rfl dL_law_2393 kk) ?_
    refine And.imp_right (fun kk => z_i2l (pc := 2395) hG dL_law_2395 kk) ?_
    refine And.imp_right (fun kk => z_lcmp (pc := 2396) hG dL_law_2396 kk) ?_
    by_cases hc : (lg_cmp (v2.2.2.1 72 (0 : Int32).toNatClampNeg) v2.1.toInt64) = 0
    rotate_left
    · replace h := zif_f hc h
      cases h
    replace h := zif_t hc h
    refine And.imp_right (fun kk => z_if_eq (pc := 2397) (tgt := 2402) hG dL_law_2397 rfl (fun _ => kk) (fun q => (q hc).elim)) ?_
    refine And.imp_right (fun kk => z_goto (pc := 2402) (tgt := 3017) hG dL_law_2402 rfl kk) ?_
    obtain rfl := Option.some.inj h
    refine And.imp_right (fun kk => z_sub (ls' := [(0, .ref 950), (1, .ref 0), (2, .ref 42), (3, .ref 72), (4, .int i)]) [2, 3, 4, 5, 6] rfl kk) ?_
    exact kf
  · replace h := zif_f hc h
    refine And.imp_right (fun kk => z_goto (pc := 2402) (tgt := 3017) hG dL_law_2402 rfl kk) ?_
    obtain rfl := Option.some.inj h
    refine And.imp_right (fun kk => z_sub (ls' := [(0, .ref 950), (1, .ref 0), (2, .ref 42), (3, .ref 72), (4, .int i)]) [2, 3, 4, 5, 6] rfl kk) ?_
    exact kf
noncomputable def nS_37 (a : Nat → Int32) (g : zS) : Option zS :=
  (nX10_patterns g).bind fun v1 => zchk (decide (v1.2.2.2.2 = g.2.2.2)) ((nX11_patterns v1.2).bind fun v2 => zchk (decide (v2.2.2.2.2 = v1.2.2.2.2)) (if v1.1 = v2.1 then (some v2.2) else (none)))
set_option maxHeartbeats 1000000 in
theorem tS_37 {x : zXx} {i : Int32} {a : Nat → Int32} (hl0 : (zl0 x).flags = flags0) (hG : zG x cL_law 7 RL ret) (hPx : zPx x.2.2.2.2.1) (hS : zScr x i a) {A0 B0 C : Nat} (g : zS) {r : zS} (h : nS_37 a g = some r) (kf : zgr r C ∧ zK x 66 3017 [(0, .ref 950), (1, .ref 0), (2, .ref 42), (3, .ref 72), (4, .int i)] [] zD r (A0 + (C / 64 - r.2.2.2 / 64)) (B0 + 2 * (C - r.2.2.2))) : zgr g C ∧ zK x 66 2405 [(0, .ref 950), (1, .ref 0), (2, .ref 42), (3, .ref 72), (4, .int i)] [] zD g (A0 + 0 + (C / 64 - g.2.2.2 / 64)) (B0 + 0 + 2 * (C - g.2.2.2)) := by
  unfold nS_37 at h
  refine And.imp_right (fun kk => z_aload_n (pc := 2405) hG 1 rfl rfl dL_law_2405 kk) ?_
  replace h := zbind h
  obtain ⟨v1, hv1, h⟩ := h
  replace h := zchk_some h
  obtain ⟨hqv1, h⟩ := h
  refine And.imp_right (fun kk => z_cvI (A' := A0 + (C / 64 - g.2.2.2 / 64)) (B' := B0 + 2 * (C - g.2.2.2)) (nc := 0) (ns := 0) (rest := []) hG [] zc_X10 DL_0 (tX10_patterns hl0  g hv1) zy_X10_patterns ⟨w493, w494⟩ w492 dL_law_2406 rfl (Nat.le_of_ble_eq_true rfl) (by omega) (by omega) rfl (Nat.le_of_ble_eq_true rfl) rfl kk) ?_
  refine zpc (of_decide_eq_true hqv1) ?_
  refine And.imp_right (fun kk => z_aload_n (pc := 2409) hG 2 rfl rfl dL_law_2409 kk) ?_
  replace h := zbind h
  obtain ⟨v2, hv2, h⟩ := h
  replace h := zchk_some h
  obtain ⟨hqv2, h⟩ := h
  refine And.imp_right (fun kk => z_cvI (A' := A0 + (C / 64 - v1.2.2.2.2 / 64)) (B' := B0 + 2 * (C - v1.2.2.2.2)) (nc := 0) (ns := 0) (rest := [.int v1.1]) hG [] zc_X11 DL_42 (tX11_patterns hl0  v1.2 hv2) zy_X11_patterns ⟨w2004, w2005⟩ w2003 dL_law_2410 rfl (Nat.le_of_ble_eq_true rfl) (by omega) (by omega) rfl (Nat.le_of_ble_eq_true rfl) rfl kk) ?_
  refine zpc (of_decide_eq_true hqv2) ?_
  by_cases hc : v1.1 = v2.1
  rotate_left
  · replace h := zif_f hc h
    cases h
  replace h := zif_t hc h
  refine And.imp_right (fun kk => z_icmp_eq (pc := 2413) (tgt := 3017) hG dL_law_2413 rfl (fun _ => kk) (fun q => (q hc).elim)) ?_
  obtain rfl := Option.some.inj h
  exact kf
noncomputable def nS_38 (a : Nat → Int32) (g : zS) : Option zS :=
  if (a 2) = 0 then ((nL_alike (a 1) (0 : Int32) g).bind fun v1 => zchk (decide (v1.2.2.2.2 = g.2.2.2)) (if (a 2) = 0 then ((nX11_alike (a 1) (0 : Int32) v1.2).bind fun v2 => zchk (decide (v2.2.2.2.2 = v1.2.2.2.2)) ((nX11_thrown v2.2).bind fun v3 => if v3 = v1.1 then (if v1.1 = 0 then (if (lg_cmp (v2.2.2.1 72 (0 : Int32).toNatClampNeg) v2.1.toInt64) = 0 then (some v2.2) else (none)) else (some v2.2)) else (none))) else ((nX11_alike (a 1) (1 : Int32) v1.2).bind fun v4 => zchk (decide (v4.2.2.2.2 = v1.2.2.2.2)) ((nX11_thrown v4.2).bind fun v5 => if v5 = v1.1 then (if v1.1 = 0 then (if (lg_cmp (v4.2.2.1 72 (0 : Int32).toNatClampNeg) v4.1.toInt64) = 0 then (some v4.2) else (none)) else (some v4.2)) else (none))))) else ((nL_alike (a 1) (1 : Int32) g).bind fun v6 => zchk (decide (v6.2.2.2.2 = g.2.2.2)) (if (a 2) = 0 then ((nX11_alike (a 1) (0 : Int32) v6.2).bind fun v7 => zchk (decide (v7.2.2.2.2 = v6.2.2.2.2)) ((nX11_thrown v7.2).bind fun v8 => if v8 = v6.1 then (if v6.1 = 0 then (if (lg_cmp (v7.2.2.1 72 (0 : Int32).toNatClampNeg) v7.1.toInt64) = 0 then (some v7.2) else (none)) else (some v7.2)) else (none))) else ((nX11_alike (a 1) (1 : Int32) v6.2).bind fun v9 => zchk (decide (v9.2.2.2.2 = v6.2.2.2.2)) ((nX11_thrown v9.2).bind fun v10 => if v10 = v6.1 then (if v6.1 = 0 then (if (lg_cmp (v9.2.2.1 72 (0 : Int32).toNatClampNeg) v9.1.toInt64) = 0 then (some v9.2) else (none)) else (some v9.2)) else (none)))))
set_option maxHeartbeats 1000000 in
theorem tS_38 {x : zXx} {i : Int32} {a : Nat → Int32} (hl0 : (zl0 x).flags = flags0) (hG : zG x cL_law 7 RL ret) (hPx : zPx x.2.2.2.2.1) (hS : zScr x i a) {A0 B0 C : Nat} (g : zS) {r : zS} (h : nS_38 a g = some r) (kf : zgr r C ∧ zK x 66 3017 [(0, .ref 950), (1, .ref 0), (2, .ref 42), (3, .ref 72), (4, .int i)] [] zD r (A0 + (C / 64 - r.2.2.2 / 64)) (B0 + 2 * (C - r.2.2.2))) : zgr g C ∧ zK x 66 2418 [(0, .ref 950), (1, .ref 0), (2, .ref 42), (3, .ref 72), (4, .int i)] [] zD g (A0 + 1 + (C / 64 - g.2.2.2 / 64)) (B0 + 6 + 2 * (C - g.2.2.2)) := by
  unfold nS_38 at h
  refine And.imp_right (fun kk => z_aload_n (pc := 2418) hG 1 rfl rfl dL_law_2418 kk) ?_
  refine And.imp_right (fun kk => z_aload_n (pc := 2419) hG 0 rfl rfl dL_law_2419 kk) ?_
  refine And.imp_right (fun kk => z_iload (pc := 2420) hG 4 rfl dL_law_2420 kk) ?_
  refine And.imp_right (fun kk => z_iconst (pc := 2422) hG kc_1 dL_law_2422 kk) ?_
  refine And.imp_right (fun kk => z_iadd (pc := 2423) hG dL_law_2423 kk) ?_
  refine And.imp_right (fun kk => z_scr (pc := 2424) hG hS 1 (by decide) rfl dL_law_2424 kk) ?_
  refine And.imp_right (fun kk => z_aload_n (pc := 2425) hG 0 rfl rfl dL_law_2425 kk) ?_
  refine And.imp_right (fun kk => z_iload (pc := 2426) hG 4 rfl dL_law_2426 kk) ?_
  refine And.imp_right (fun kk => z_iconst (pc := 2428) hG kc_2 dL_law_2428 kk) ?_
  refine And.imp_right (fun kk => z_iadd (pc := 2429) hG dL_law_2429 kk) ?_
  refine And.imp_right (fun kk => z_scr (pc := 2430) hG hS 2 (by decide) rfl dL_law_2430 kk) ?_
  refine zbr (c := (a 2) = 0) (fun hc => ?_) (fun hc => ?_) (fun k1 k2 => z_if_eq (pc := 2431) (tgt := 2438) hG dL_law_2431 rfl k1 k2)
  · replace h := zif_t hc h
    refine And.imp_right (fun kk => z_iconst (pc := 2438) hG kc_0 dL_law_2438 kk) ?_
    refine And.imp_right (fun kk => z_aload_n (pc := 2439) hG 3 rfl rfl dL_law_2439 kk) ?_
    replace h := zbind h
    obtain ⟨v1, hv1, h⟩ := h
    replace h := zchk_some h
    obtain ⟨hqv1, h⟩ := h
    refine And.imp_right (fun kk => z_csH (A' := A0 + (C / 64 - g.2.2.2 / 64)) (B' := B0 + 2 * (C - g.2.2.2)) (rest := []) hG hPx [.ref 0, .int (a 1), .int (0 : Int32), .ref 72] (tL_alike hl0 (a 1) (0 : Int32) g hv1) zyH_alike w1332 w1331 dL_law_2440 rfl (Nat.le_of_ble_eq_true rfl) (by omega) (by omega) rfl (Nat.le_of_ble_eq_true rfl) rfl kk) ?_
    refine zpc (of_decide_eq_true hqv1) ?_
    refine And.imp_right (fun kk => z_istore (pc := 2443) (ls' := [(5, .int v1.1), (0, .ref 950), (1, .ref 0), (2, .ref 42), (3, .ref 72), (4, .int i)]) hG [0, 1, 2, 3, 4, 5] (by decide) rfl dL_law_2443 kk) ?_
    refine And.imp_right (fun kk => z_aload_n (pc := 2445) hG 3 rfl rfl dL_law_2445 kk) ?_
    refine And.imp_right (fun kk => z_aload_n (pc := 2446) hG 1 rfl rfl dL_law_2446 kk) ?_
    refine And.imp_right (fun kk => z_iload (pc := 2447) hG 5 rfl dL_law_2447 kk) ?_
    refine And.imp_right (fun kk => z_iconst (pc := 2449) hG kc_1 dL_law_2449 kk) ?_
    refine And.imp_right (fun kk => z_iadd (pc := 2450) hG dL_law_2450 kk) ?_
    refine And.imp_right (fun kk => z_scr (pc := 2451) hG hS 1 (by decide) rfl dL_law_2451 kk) ?_
    refine And.imp_right (fun kk => z_aload_n (pc := 2452) hG 1 rfl rfl dL_law_2452 kk) ?_
    refine And.imp_right (fun kk => z_iload (pc := 2453) hG 5 rfl dL_law_2453 kk) ?_
    refine And.imp_right (fun kk => z_iconst (pc := 2455) hG kc_2 dL_law_2455 kk) ?_
    refine And.imp_right (fun kk => z_iadd (pc := 2456) hG dL_law_2456 kk) ?_
    refine And.imp_right (fun kk => z_scr (pc := 2457) hG hS 2 (by decide) rfl dL_law_2457 kk) ?_
    refine zbr (c := (a 2) = 0) (fun hc => ?_) (fun hc => ?_) (fun k1 k2 => z_if_eq (pc := 2458) (tgt := 2465) hG dL_law_2458 rfl k1 k2)
    · replace h := zif_t hc h
      refine And.imp_right (fun kk => z_iconst (pc := 2465) hG kc_0 dL_law_2465 kk) ?_
      replace h := zbind h
      obtain ⟨v2, hv2, h⟩ := h
      replace h := zchk_some h
      obtain ⟨hqv2, h⟩ := h
      refine And.imp_right (fun kk => z_cvI (A' := A0 + (C / 64 - v1.2.2.2.2 / 64)) (B' := B0 + 2 * (C - v1.2.2.2.2)) (nc := 0) (ns := 0) (rest := []) hG [.int (a 1), .int (0 : Int32)] zc_X11 DL_42 (tX11_alike hl0 (a 1) (0 : Int32) v1.2 hv2) zy_X11_alike ⟨w2008, w2009⟩ w2007 dL_law_2466 rfl (Nat.le_of_ble_eq_true rfl) (by omega) (by omega) rfl (Nat.le_of_ble_eq_true rfl) rfl kk) ?_
      refine zpc (of_decide_eq_true hqv2) ?_
      refine And.imp_right (fun kk => z_istore (pc := 2469) (ls' := [(6, .int v2.1), (5, .int v1.1), (0, .ref 950), (1, .ref 0), (2, .ref 42), (3, .ref 72), (4, .int i)]) hG [0, 1, 2, 3, 4, 5, 6] (by decide) rfl dL_law_2469 kk) ?_
      refine And.imp_right (fun kk => z_aload_n (pc := 2471) hG 4 rfl rfl dL_law_2471 kk) ?_
      replace h := zbind h
      obtain ⟨v3, hv3, h⟩ := h
      refine And.imp_right (fun kk => z_cvI (A' := A0 + (C / 64 - v2.2.2.2.2 / 64)) (B' := B0 + 2 * (C - v2.2.2.2.2)) (nc := 0) (ns := 0) (rest := []) hG [] zc_X11 DL_42 (tX11_thrown hl0  v2.2 hv3) zy_X11_thrown ⟨w1595, w1596⟩ w1594 dL_law_2472 rfl (Nat.le_of_ble_eq_true rfl) (by omega) (by omega) rfl (Nat.le_of_ble_eq_true rfl) rfl kk) ?_
      refine And.imp_right (fun kk => z_iload (pc := 2475) hG 1 rfl dL_law_2475 kk) ?_
      by_cases hc : v3 = v1.1
      rotate_left
      · replace h := zif_f hc h
        cases h
      replace h := zif_t hc h
      refine And.imp_right (fun kk => z_icmp_eq (pc := 2477) (tgt := 2482) hG dL_law_2477 rfl (fun _ => kk) (fun q => (q hc).elim)) ?_
      refine And.imp_right (fun kk => z_iload (pc := 2482) hG 1 rfl dL_law_2482 kk) ?_
      refine zbr (c := v1.1 = 0) (fun hc => ?_) (fun hc => ?_) (fun k1 k2 => z_if_ne (pc := 2484) (tgt := 2499) hG dL_law_2484 rfl k2 k1)
      · replace h := zif_t hc h
        refine And.imp_right (fun kk => z_aload_n (pc := 2487) hG 5 rfl rfl dL_law_2487 kk) ?_
        refine And.imp_right (fun kk => z_iconst (pc := 2488) hG kc_0 dL_law_2488 kk) ?_
        refine And.imp_right (fun kk => z_lald (pc := 2489) hG DL_72 (zin_in (by decide)) dL_law_2489 kk) ?_
        refine And.imp_right (fun kk => z_iload (pc := 2490) hG 0 rfl dL_law_2490 kk) ?_
        refine And.imp_right (fun kk => z_i2l (pc := 2492) hG dL_law_2492 kk) ?_
        refine And.imp_right (fun kk => z_lcmp (pc := 2493) hG dL_law_2493 kk) ?_
        by_cases hc : (lg_cmp (v2.2.2.1 72 (0 : Int32).toNatClampNeg) v2.1.toInt64) = 0
        rotate_left
        · replace h := zif_f hc h
          cases h
        replace h := zif_t hc h
        refine And.imp_right (fun kk => z_if_eq (pc := 2494) (tgt := 2499) hG dL_law_2494 rfl (fun _ => kk) (fun q => (q hc).elim)) ?_
        refine And.imp_right (fun kk => z_goto (pc := 2499) (tgt := 3017) hG dL_law_2499 rfl kk) ?_
        obtain rfl := Option.some.inj h
        refine And.imp_right (fun kk => z_sub (ls' := [(0, .ref 950), (1, .ref 0), (2, .ref 42), (3, .ref 72), (4, .int i)]) [2, 3, 4, 5, 6] rfl kk) ?_
        exact kf
      · replace h := zif_f hc h
        refine And.imp_right (fun kk => z_goto (pc := 2499) (tgt := 3017) hG dL_law_2499 rfl kk) ?_
        obtain rfl := Option.some.inj h
        refine And.imp_right (fun kk => z_sub (ls' := [(0, .ref 950), (1, .ref 0), (2, .ref 42), (3, .ref 72), (4, .int i)]) [2, 3, 4, 5, 6] rfl kk) ?_
        exact kf
    · replace h := zif_f hc h
      refine And.imp_right (fun kk => z_iconst (pc := 2461) hG kc_1 dL_law_2461 kk) ?_
      refine And.imp_right (fun kk => z_goto (pc := 2462) (tgt := 2466) hG dL_law_2462 rfl kk) ?_
      replace h := zbind h
      obtain ⟨v4, hv4, h⟩ := h
      replace h := zchk_some h
      obtain ⟨hqv4, h⟩ := h
      refine And.imp_right (fun kk => z_cvI (A' := A0 + (C / 64 - v1.2.2.2.2 / 64)) (B' := B0 + 2 * (C - v1.2.2.2.2)) (nc := 0) (ns := 0) (rest := []) hG [.int (a 1), .int (1 : Int32)] zc_X11 DL_42 (tX11_alike hl0 (a 1) (1 : Int32) v1.2 hv4) zy_X11_alike ⟨w2008, w2009⟩ w2007 dL_law_2466 rfl (Nat.le_of_ble_eq_true rfl) (by omega) (by omega) rfl (Nat.le_of_ble_eq_true rfl) rfl kk) ?_
      refine zpc (of_decide_eq_true hqv4) ?_
      refine And.imp_right (fun kk => z_istore (pc := 2469) (ls' := [(6, .int v4.1), (5, .int v1.1), (0, .ref 950), (1, .ref 0), (2, .ref 42), (3, .ref 72), (4, .int i)]) hG [0, 1, 2, 3, 4, 5, 6] (by decide) rfl dL_law_2469 kk) ?_
      refine And.imp_right (fun kk => z_aload_n (pc := 2471) hG 4 rfl rfl dL_law_2471 kk) ?_
      replace h := zbind h
      obtain ⟨v5, hv5, h⟩ := h
      refine And.imp_right (fun kk => z_cvI (A' := A0 + (C / 64 - v4.2.2.2.2 / 64)) (B' := B0 + 2 * (C - v4.2.2.2.2)) (nc := 0) (ns := 0) (rest := []) hG [] zc_X11 DL_42 (tX11_thrown hl0  v4.2 hv5) zy_X11_thrown ⟨w1595, w1596⟩ w1594 dL_law_2472 rfl (Nat.le_of_ble_eq_true rfl) (by omega) (by omega) rfl (Nat.le_of_ble_eq_true rfl) rfl kk) ?_
      refine And.imp_right (fun kk => z_iload (pc := 2475) hG 1 rfl dL_law_2475 kk) ?_
      by_cases hc : v5 = v1.1
      rotate_left
      · replace h := zif_f hc h
        cases h
      replace h := zif_t hc h
      refine And.imp_right (fun kk => z_icmp_eq (pc := 2477) (tgt := 2482) hG dL_law_2477 rfl (fun _ => kk) (fun q => (q hc).elim)) ?_
      refine And.imp_right (fun kk => z_iload (pc := 2482) hG 1 rfl dL_law_2482 kk) ?_
      refine zbr (c := v1.1 = 0) (fun hc => ?_) (fun hc => ?_) (fun k1 k2 => z_if_ne (pc := 2484) (tgt := 2499) hG dL_law_2484 rfl k2 k1)
      · replace h := zif_t hc h
        refine And.imp_right (fun kk => z_aload_n (pc := 2487) hG 5 rfl rfl dL_law_2487 kk) ?_
        refine And.imp_right (fun kk => z_iconst (pc := 2488) hG kc_0 dL_law_2488 kk) ?_
        refine And.imp_right (fun kk => z_lald (pc := 2489) hG DL_72 (zin_in (by decide)) dL_law_2489 kk) ?_
        refine And.imp_right (fun kk => z_iload (pc := 2490) hG 0 rfl dL_law_2490 kk) ?_
        refine And.imp_right (fun kk => z_i2l (pc := 2492) hG dL_law_2492 kk) ?_
        refine And.imp_right (fun kk => z_lcmp (pc := 2493) hG dL_law_2493 kk) ?_
        by_cases hc : (lg_cmp (v4.2.2.1 72 (0 : Int32).toNatClampNeg) v4.1.toInt64) = 0
        rotate_left
        · replace h := zif_f hc h
          cases h
        replace h := zif_t hc h
        refine And.imp_right (fun kk => z_if_eq (pc := 2494) (tgt := 2499) hG dL_law_2494 rfl (fun _ => kk) (fun q => (q hc).elim)) ?_
        refine And.imp_right (fun kk => z_goto (pc := 2499) (tgt := 3017) hG dL_law_2499 rfl kk) ?_
        obtain rfl := Option.some.inj h
        refine And.imp_right (fun kk => z_sub (ls' := [(0, .ref 950), (1, .ref 0), (2, .ref 42), (3, .ref 72), (4, .int i)]) [2, 3, 4, 5, 6] rfl kk) ?_
        exact kf
      · replace h := zif_f hc h
        refine And.imp_right (fun kk => z_goto (pc := 2499) (tgt := 3017) hG dL_law_2499 rfl kk) ?_
        obtain rfl := Option.some.inj h
        refine And.imp_right (fun kk => z_sub (ls' := [(0, .ref 950), (1, .ref 0), (2, .ref 42), (3, .ref 72), (4, .int i)]) [2, 3, 4, 5, 6] rfl kk) ?_
        exact kf
  · replace h := zif_f hc h
    refine And.imp_right (fun kk => z_iconst (pc := 2434) hG kc_1 dL_law_2434 kk) ?_
    refine And.imp_right (fun kk => z_goto (pc := 2435) (tgt := 2439) hG dL_law_2435 rfl kk) ?_
    refine And.imp_right (fun kk => z_aload_n (pc := 2439) hG 3 rfl rfl dL_law_2439 kk) ?_
    replace h := zbind h
    obtain ⟨v6, hv6, h⟩ := h
    replace h := zchk_some h
    obtain ⟨hqv6, h⟩ := h
    refine And.imp_right (fun kk => z_csH (A' := A0 + (C / 64 - g.2.2.2 / 64)) (B' := B0 + 2 * (C - g.2.2.2)) (rest := []) hG hPx [.ref 0, .int (a 1), .int (1 : Int32), .ref 72] (tL_alike hl0 (a 1) (1 : Int32) g hv6) zyH_alike w1332 w1331 dL_law_2440 rfl (Nat.le_of_ble_eq_true rfl) (by omega) (by omega) rfl (Nat.le_of_ble_eq_true rfl) rfl kk) ?_
    refine zpc (of_decide_eq_true hqv6) ?_
    refine And.imp_right (fun kk => z_istore (pc := 2443) (ls' := [(5, .int v6.1), (0, .ref 950), (1, .ref 0), (2, .ref 42), (3, .ref 72), (4, .int i)]) hG [0, 1, 2, 3, 4, 5] (by decide) rfl dL_law_2443 kk) ?_
    refine And.imp_right (fun kk => z_aload_n (pc := 2445) hG 3 rfl rfl dL_law_2445 kk) ?_
    refine And.imp_right (fun kk => z_aload_n (pc := 2446) hG 1 rfl rfl dL_law_2446 kk) ?_
    refine And.imp_right (fun kk => z_iload (pc := 2447) hG 5 rfl dL_law_2447 kk) ?_
    refine And.imp_right (fun kk => z_iconst (pc := 2449) hG kc_1 dL_law_2449 kk) ?_
    refine And.imp_right (fun kk => z_iadd (pc := 2450) hG dL_law_2450 kk) ?_
    refine And.imp_right (fun kk => z_scr (pc := 2451) hG hS 1 (by decide) rfl dL_law_2451 kk) ?_
    refine And.imp_right (fun kk => z_aload_n (pc := 2452) hG 1 rfl rfl dL_law_2452 kk) ?_
    refine And.imp_right (fun kk => z_iload (pc := 2453) hG 5 rfl dL_law_2453 kk) ?_
    refine And.imp_right (fun kk => z_iconst (pc := 2455) hG kc_2 dL_law_2455 kk) ?_
    refine And.imp_right (fun kk => z_iadd (pc := 2456) hG dL_law_2456 kk) ?_
    refine And.imp_right (fun kk => z_scr (pc := 2457) hG hS 2 (by decide) rfl dL_law_2457 kk) ?_
    refine zbr (c := (a 2) = 0) (fun hc => ?_) (fun hc => ?_) (fun k1 k2 => z_if_eq (pc := 2458) (tgt := 2465) hG dL_law_2458 rfl k1 k2)
    · replace h := zif_t hc h
      refine And.imp_right (fun kk => z_iconst (pc := 2465) hG kc_0 dL_law_2465 kk) ?_
      replace h := zbind h
      obtain ⟨v7, hv7, h⟩ := h
      replace h := zchk_some h
      obtain ⟨hqv7, h⟩ := h
      refine And.imp_right (fun kk => z_cvI (A' := A0 + (C / 64 - v6.2.2.2.2 / 64)) (B' := B0 + 2 * (C - v6.2.2.2.2)) (nc := 0) (ns := 0) (rest := []) hG [.int (a 1), .int (0 : Int32)] zc_X11 DL_42 (tX11_alike hl0 (a 1) (0 : Int32) v6.2 hv7) zy_X11_alike ⟨w2008, w2009⟩ w2007 dL_law_2466 rfl (Nat.le_of_ble_eq_true rfl) (by omega) (by omega) rfl (Nat.le_of_ble_eq_true rfl) rfl kk) ?_
      refine zpc (of_decide_eq_true hqv7) ?_
      refine And.imp_right (fun kk => z_istore (pc := 2469) (ls' := [(6, .int v7.1), (5, .int v6.1), (0, .ref 950), (1, .ref 0), (2, .ref 42), (3, .ref 72), (4, .int i)]) hG [0, 1, 2, 3, 4, 5, 6] (by decide) rfl dL_law_2469 kk) ?_
      refine And.imp_right (fun kk => z_aload_n (pc := 2471) hG 4 rfl rfl dL_law_2471 kk) ?_
      replace h := zbind h
      obtain ⟨v8, hv8, h⟩ := h
      refine And.imp_right (fun kk => z_cvI (A' := A0 + (C / 64 - v7.2.2.2.2 / 64)) (B' := B0 + 2 * (C - v7.2.2.2.2)) (nc := 0) (ns := 0) (rest := []) hG [] zc_X11 DL_42 (tX11_thrown hl0  v7.2 hv8) zy_X11_thrown ⟨w1595, w1596⟩ w1594 dL_law_2472 rfl (Nat.le_of_ble_eq_true rfl) (by omega) (by omega) rfl (Nat.le_of_ble_eq_true rfl) rfl kk) ?_
      refine And.imp_right (fun kk => z_iload (pc := 2475) hG 1 rfl dL_law_2475 kk) ?_
      by_cases hc : v8 = v6.1
      rotate_left
      · replace h := zif_f hc h
        cases h
      replace h := zif_t hc h
      refine And.imp_right (fun kk => z_icmp_eq (pc := 2477) (tgt := 2482) hG dL_law_2477 rfl (fun _ => kk) (fun q => (q hc).elim)) ?_
      refine And.imp_right (fun kk => z_iload (pc := 2482) hG 1 rfl dL_law_2482 kk) ?_
      refine zbr (c := v6.1 = 0) (fun hc => ?_) (fun hc => ?_) (fun k1 k2 => z_if_ne (pc := 2484) (tgt := 2499) hG dL_law_2484 rfl k2 k1)
      · replace h := zif_t hc h
        refine And.imp_right (fun kk => z_aload_n (pc := 2487) hG 5 rfl rfl dL_law_2487 kk) ?_
        refine And.imp_right (fun kk => z_iconst (pc := 2488) hG kc_0 dL_law_2488 kk) ?_
        refine And.imp_right (fun kk => z_lald (pc := 2489) hG DL_72 (zin_in (by decide)) dL_law_2489 kk) ?_
        refine And.imp_right (fun kk => z_iload (pc := 2490) hG 0 rfl dL_law_2490 kk) ?_
        refine And.imp_right (fun kk => z_i2l (pc := 2492) hG dL_law_2492 kk) ?_
        refine And.imp_right (fun kk => z_lcmp (pc := 2493) hG dL_law_2493 kk) ?_
        by_cases hc : (lg_cmp (v7.2.2.1 72 (0 : Int32).toNatClampNeg) v7.1.toInt64) = 0
        rotate_left
        · replace h := zif_f hc h
          cases h
        replace h := zif_t hc h
        refine And.imp_right (fun kk => z_if_eq (pc := 2494) (tgt := 2499) hG dL_law_2494 rfl (fun _ => kk) (fun q => (q hc).elim)) ?_
        refine And.imp_right (fun kk => z_goto (pc := 2499) (tgt := 3017) hG dL_law_2499 rfl kk) ?_
        obtain rfl := Option.some.inj h
        refine And.imp_right (fun kk => z_sub (ls' := [(0, .ref 950), (1, .ref 0), (2, .ref 42), (3, .ref 72), (4, .int i)]) [2, 3, 4, 5, 6] rfl kk) ?_
        exact kf
      · replace h := zif_f hc h
        refine And.imp_right (fun kk => z_goto (pc := 2499) (tgt := 3017) hG dL_law_2499 rfl kk) ?_
        obtain rfl := Option.some.inj h
        refine And.imp_right (fun kk => z_sub (ls' := [(0, .ref 950), (1, .ref 0), (2, .ref 42), (3, .ref 72), (4, .int i)]) [2, 3, 4, 5, 6] rfl kk) ?_
        exact kf
    · replace h := zif_f hc h
      refine And.imp_right (fun kk => z_iconst (pc := 2461) hG kc_1 dL_law_2461 kk) ?_
      refine And.imp_right (fun kk => z_goto (pc := 2462) (tgt := 2466) hG dL_law_2462 rfl kk) ?_
      replace h := zbind h
      obtain ⟨v9, hv9, h⟩ := h
      replace h := zchk_some h
      obtain ⟨hqv9, h⟩ := h
      refine And.imp_right (fun kk => z_cvI (A' := A0 + (C / 64 - v6.2.2.2.2 / 64)) (B' := B0 + 2 * (C - v6.2.2.2.2)) (nc := 0) (ns := 0) (rest := []) hG [.int (a 1), .int (1 : Int32)] zc_X11 DL_42 (tX11_alike hl0 (a 1) (1 : Int32) v6.2 hv9) zy_X11_alike ⟨w2008, w2009⟩ w2007 dL_law_2466 rfl (Nat.le_of_ble_eq_true rfl) (by omega) (by omega) rfl (Nat.le_of_ble_eq_true rfl) rfl kk) ?_
      refine zpc (of_decide_eq_true hqv9) ?_
      refine And.imp_right (fun kk => z_istore (pc := 2469) (ls' := [(6, .int v9.1), (5, .int v6.1), (0, .ref 950), (1, .ref 0), (2, .ref 42), (3, .ref 72), (4, .int i)]) hG [0, 1, 2, 3, 4, 5, 6] (by decide) rfl dL_law_2469 kk) ?_
      refine And.imp_right (fun kk => z_aload_n (pc := 2471) hG 4 rfl rfl dL_law_2471 kk) ?_
      replace h := zbind h
      obtain ⟨v10, hv10, h⟩ := h
      refine And.imp_right (fun kk => z_cvI (A' := A0 + (C / 64 - v9.2.2.2.2 / 64)) (B' := B0 + 2 * (C - v9.2.2.2.2)) (nc := 0) (ns := 0) (rest := []) hG [] zc_X11 DL_42 (tX11_thrown hl0  v9.2 hv10) zy_X11_thrown ⟨w1595, w1596⟩ w1594 dL_law_2472 rfl (Nat.le_of_ble_eq_true rfl) (by omega) (by omega) rfl (Nat.le_of_ble_eq_true rfl) rfl kk) ?_
      refine And.imp_right (fun kk => z_iload (pc := 2475) hG 1 rfl dL_law_2475 kk) ?_
      by_cases hc : v10 = v6.1
      rotate_left
      · replace h := zif_f hc h
        cases h
      replace h := zif_t hc h
      refine And.imp_right (fun kk => z_icmp_eq (pc := 2477) (tgt := 2482) hG dL_law_2477 rfl (fun _ => kk) (fun q => (q hc).elim)) ?_
      refine And.imp_right (fun kk => z_iload (pc := 2482) hG 1 rfl dL_law_2482 kk) ?_
      refine zbr (c := v6.1 = 0) (fun hc => ?_) (fun hc => ?_) (fun k1 k2 => z_if_ne (pc := 2484) (tgt := 2499) hG dL_law_2484 rfl k2 k1)
      · replace h := zif_t hc h
        refine And.imp_right (fun kk => z_aload_n (pc := 2487) hG 5 rfl rfl dL_law_2487 kk) ?_
        refine And.imp_right (fun kk => z_iconst (pc := 2488) hG kc_0 dL_law_2488 kk) ?_
        refine And.imp_right (fun kk => z_lald (pc := 2489) hG DL_72 (zin_in (by decide)) dL_law_2489 kk) ?_
        refine And.imp_right (fun kk => z_iload (pc := 2490) hG 0 rfl dL_law_2490 kk) ?_
        refine And.imp_right (fun kk => z_i2l (pc := 2492) hG dL_law_2492 kk) ?_
        refine And.imp_right (fun kk => z_lcmp (pc := 2493) hG dL_law_2493 kk) ?_
        by_cases hc : (lg_cmp (v9.2.2.1 72 (0 : Int32).toNatClampNeg) v9.1.toInt64) = 0
        rotate_left
        · replace h := zif_f hc h
          cases h
        replace h := zif_t hc h
        refine And.imp_right (fun kk => z_if_eq (pc := 2494) (tgt := 2499) hG dL_law_2494 rfl (fun _ => kk) (fun q => (q hc).elim)) ?_
        refine And.imp_right (fun kk => z_goto (pc := 2499) (tgt := 3017) hG dL_law_2499 rfl kk) ?_
        obtain rfl := Option.some.inj h
        refine And.imp_right (fun kk => z_sub (ls' := [(0, .ref 950), (1, .ref 0), (2, .ref 42), (3, .ref 72), (4, .int i)]) [2, 3, 4, 5, 6] rfl kk) ?_
        exact kf
      · replace h := zif_f hc h
        refine And.imp_right (fun kk => z_goto (pc := 2499) (tgt := 3017) hG dL_law_2499 rfl kk) ?_
        obtain rfl := Option.some.inj h
        refine And.imp_right (fun kk => z_sub (ls' := [(0, .ref 950), (1, .ref 0), (2, .ref 42), (3, .ref 72), (4, .int i)]) [2, 3, 4, 5, 6] rfl kk) ?_
        exact kf
noncomputable def nS_39 (a : Nat → Int32) (g : zS) : Option zS :=
  (nL_near (a 1) (a 2) g).bind fun v1 => zchk (decide (v1.2.2.2.2 = g.2.2.2)) ((nX11_near (a 1) (a 2) v1.2).bind fun v2 => zchk (decide (v2.2.2.2.2 = v1.2.2.2.2)) ((nX11_thrown v2.2).bind fun v3 => if v3 = v1.1 then (if v1.1 = 0 then (if (lg_cmp (v2.2.2.1 72 (0 : Int32).toNatClampNeg) v2.1.toInt64) = 0 then (some v2.2) else (none)) else (some v2.2)) else (none)))
set_option maxHeartbeats 1000000 in
theorem tS_39 {x : zXx} {i : Int32} {a : Nat → Int32} (hl0 : (zl0 x).flags = flags0) (hG : zG x cL_law 7 RL ret) (hPx : zPx x.2.2.2.2.1) (hS : zScr x i a) {A0 B0 C : Nat} (g : zS) {r : zS} (h : nS_39 a g = some r) (kf : zgr r C ∧ zK x 66 3017 [(0, .ref 950), (1, .ref 0), (2, .ref 42), (3, .ref 72), (4, .int i)] [] zD r (A0 + (C / 64 - r.2.2.2 / 64)) (B0 + 2 * (C - r.2.2.2))) : zgr g C ∧ zK x 66 2502 [(0, .ref 950), (1, .ref 0), (2, .ref 42), (3, .ref 72), (4, .int i)] [] zD g (A0 + 2 + (C / 64 - g.2.2.2 / 64)) (B0 + 12 + 2 * (C - g.2.2.2)) := by
  unfold nS_39 at h
  refine And.imp_right (fun kk => z_aload_n (pc := 2502) hG 1 rfl rfl dL_law_2502 kk) ?_
  refine And.imp_right (fun kk => z_aload_n (pc := 2503) hG 0 rfl rfl dL_law_2503 kk) ?_
  refine And.imp_right (fun kk => z_iload (pc := 2504) hG 4 rfl dL_law_2504 kk) ?_
  refine And.imp_right (fun kk => z_iconst (pc := 2506) hG kc_1 dL_law_2506 kk) ?_
  refine And.imp_right (fun kk => z_iadd (pc := 2507) hG dL_law_2507 kk) ?_
  refine And.imp_right (fun kk => z_scr (pc := 2508) hG hS 1 (by decide) rfl dL_law_2508 kk) ?_
  refine And.imp_right (fun kk => z_aload_n (pc := 2509) hG 0 rfl rfl dL_law_2509 kk) ?_
  refine And.imp_right (fun kk => z_iload (pc := 2510) hG 4 rfl dL_law_2510 kk) ?_
  refine And.imp_right (fun kk => z_iconst (pc := 2512) hG kc_2 dL_law_2512 kk) ?_
  refine And.imp_right (fun kk => z_iadd (pc := 2513) hG dL_law_2513 kk) ?_
  refine And.imp_right (fun kk => z_scr (pc := 2514) hG hS 2 (by decide) rfl dL_law_2514 kk) ?_
  refine And.imp_right (fun kk => z_aload_n (pc := 2515) hG 3 rfl rfl dL_law_2515 kk) ?_
  replace h := zbind h
  obtain ⟨v1, hv1, h⟩ := h
  replace h := zchk_some h
  obtain ⟨hqv1, h⟩ := h
  refine And.imp_right (fun kk => z_csH (A' := A0 + (C / 64 - g.2.2.2 / 64)) (B' := B0 + 2 * (C - g.2.2.2)) (rest := []) hG hPx [.ref 0, .int (a 1), .int (a 2), .ref 72] (tL_near hl0 (a 1) (a 2) g hv1) zyH_near w1347 w1346 dL_law_2516 rfl (Nat.le_of_ble_eq_true rfl) (by omega) (by omega) rfl (Nat.le_of_ble_eq_true rfl) rfl kk) ?_
  refine zpc (of_decide_eq_true hqv1) ?_
  refine And.imp_right (fun kk => z_istore (pc := 2519) (ls' := [(5, .int v1.1), (0, .ref 950), (1, .ref 0), (2, .ref 42), (3, .ref 72), (4, .int i)]) hG [0, 1, 2, 3, 4, 5] (by decide) rfl dL_law_2519 kk) ?_
  refine And.imp_right (fun kk => z_aload_n (pc := 2521) hG 3 rfl rfl dL_law_2521 kk) ?_
  refine And.imp_right (fun kk => z_aload_n (pc := 2522) hG 1 rfl rfl dL_law_2522 kk) ?_
  refine And.imp_right (fun kk => z_iload (pc := 2523) hG 5 rfl dL_law_2523 kk) ?_
  refine And.imp_right (fun kk => z_iconst (pc := 2525) hG kc_1 dL_law_2525 kk) ?_
  refine And.imp_right (fun kk => z_iadd (pc := 2526) hG dL_law_2526 kk) ?_
  refine And.imp_right (fun kk => z_scr (pc := 2527) hG hS 1 (by decide) rfl dL_law_2527 kk) ?_
  refine And.imp_right (fun kk => z_aload_n (pc := 2528) hG 1 rfl rfl dL_law_2528 kk) ?_
  refine And.imp_right (fun kk => z_iload (pc := 2529) hG 5 rfl dL_law_2529 kk) ?_
  refine And.imp_right (fun kk => z_iconst (pc := 2531) hG kc_2 dL_law_2531 kk) ?_
  refine And.imp_right (fun kk => z_iadd (pc := 2532) hG dL_law_2532 kk) ?_
  refine And.imp_right (fun kk => z_scr (pc := 2533) hG hS 2 (by decide) rfl dL_law_2533 kk) ?_
  replace h := zbind h
  obtain ⟨v2, hv2, h⟩ := h
  replace h := zchk_some h
  obtain ⟨hqv2, h⟩ := h
  refine And.imp_right (fun kk => z_cvI (A' := A0 + (C / 64 - v1.2.2.2.2 / 64)) (B' := B0 + 2 * (C - v1.2.2.2.2)) (nc := 0) (ns := 0) (rest := []) hG [.int (a 1), .int (a 2)] zc_X11 DL_42 (tX11_near hl0 (a 1) (a 2) v1.2 hv2) zy_X11_near ⟨w2016, w2017⟩ w2015 dL_law_2534 rfl (Nat.le_of_ble_eq_true rfl) (by omega) (by omega) rfl (Nat.le_of_ble_eq_true rfl) rfl kk) ?_
  refine zpc (of_decide_eq_true hqv2) ?_
  refine And.imp_right (fun kk => z_istore (pc := 2537) (ls' := [(6, .int v2.1), (5, .int v1.1), (0, .ref 950), (1, .ref 0), (2, .ref 42), (3, .ref 72), (4, .int i)]) hG [0, 1, 2, 3, 4, 5, 6] (by decide) rfl dL_law_2537 kk) ?_
  refine And.imp_right (fun kk => z_aload_n (pc := 2539) hG 4 rfl rfl dL_law_2539 kk) ?_
  replace h := zbind h
  obtain ⟨v3, hv3, h⟩ := h
  refine And.imp_right (fun kk => z_cvI (A' := A0 + (C / 64 - v2.2.2.2.2 / 64)) (B' := B0 + 2 * (C - v2.2.2.2.2)) (nc := 0) (ns := 0) (rest := []) hG [] zc_X11 DL_42 (tX11_thrown hl0  v2.2 hv3) zy_X11_thrown ⟨w1595, w1596⟩ w1594 dL_law_2540 rfl (Nat.le_of_ble_eq_true rfl) (by omega) (by omega) rfl (Nat.le_of_ble_eq_true rfl) rfl kk) ?_
  refine And.imp_right (fun kk => z_iload (pc := 2543) hG 1 rfl dL_law_2543 kk) ?_
  by_cases hc : v3 = v1.1
  rotate_left
  · replace h := zif_f hc h
    cases h
  replace h := zif_t hc h
  refine And.imp_right (fun kk => z_icmp_eq (pc := 2545) (tgt := 2550) hG dL_law_2545 rfl (fun _ => kk) (fun q => (q hc).elim)) ?_
  refine And.imp_right (fun kk => z_iload (pc := 2550) hG 1 rfl dL_law_2550 kk) ?_
  refine zbr (c := v1.1 = 0) (fun hc => ?_) (fun hc => ?_) (fun k1 k2 => z_if_ne (pc := 2552) (tgt := 2567) hG dL_law_2552 rfl k2 k1)
  · replace h := zif_t hc h
    refine And.imp_right (fun kk => z_aload_n (pc := 2555) hG 5 rfl rfl dL_law_2555 kk) ?_
    refine And.imp_right (fun kk => z_iconst (pc := 2556) hG kc_0 dL_law_2556 kk) ?_
    refine And.imp_right (fun kk => z_lald (pc := 2557) hG DL_72 (zin_in (by decide)) dL_law_2557 kk) ?_
    refine And.imp_right (fun kk => z_iload (pc := 2558) hG 0 rfl dL_law_2558 kk) ?_
    refine And.imp_right (fun kk => z_i2l (pc := 2560) hG dL_law_2560 kk) ?_
    refine And.imp_right (fun kk => z_lcmp (pc := 2561) hG dL_law_2561 kk) ?_
    by_cases hc : (lg_cmp (v2.2.2.1 72 (0 : Int32).toNatClampNeg) v2.1.toInt64) = 0
    rotate_left
    · replace h := zif_f hc h
      cases h
    replace h := zif_t hc h
    refine And.imp_right (fun kk => z_if_eq (pc := 2562) (tgt := 2567) hG dL_law_2562 rfl (fun _ => kk) (fun q => (q hc).elim)) ?_
    refine And.imp_right (fun kk => z_goto (pc := 2567) (tgt := 3017) hG dL_law_2567 rfl kk) ?_
    obtain rfl := Option.some.inj h
    refine And.imp_right (fun kk => z_sub (ls' := [(0, .ref 950), (1, .ref 0), (2, .ref 42), (3, .ref 72), (4, .int i)]) [2, 3, 4, 5, 6] rfl kk) ?_
    exact kf
  · replace h := zif_f hc h
    refine And.imp_right (fun kk => z_goto (pc := 2567) (tgt := 3017) hG dL_law_2567 rfl kk) ?_
    obtain rfl := Option.some.inj h
    refine And.imp_right (fun kk => z_sub (ls' := [(0, .ref 950), (1, .ref 0), (2, .ref 42), (3, .ref 72), (4, .int i)]) [2, 3, 4, 5, 6] rfl kk) ?_
    exact kf
noncomputable def nS_40 (a : Nat → Int32) (g : zS) : Option zS :=
  (nL_bunch (a 1) (a 2) g).bind fun v1 => zchk (decide (v1.2.2.2.2 = g.2.2.2)) ((nX11_bunch (a 1) (a 2) v1.2).bind fun v2 => zchk (decide (v2.2.2.2.2 = v1.2.2.2.2)) ((nX11_thrown v2.2).bind fun v3 => if v3 = v1.1 then (if v1.1 = 0 then (if (lg_cmp (v2.2.2.1 72 (0 : Int32).toNatClampNeg) v2.1.toInt64) = 0 then (some v2.2) else (none)) else (some v2.2)) else (none)))
set_option maxHeartbeats 1000000 in
theorem tS_40 {x : zXx} {i : Int32} {a : Nat → Int32} (hl0 : (zl0 x).flags = flags0) (hG : zG x cL_law 7 RL ret) (hPx : zPx x.2.2.2.2.1) (hS : zScr x i a) {A0 B0 C : Nat} (g : zS) {r : zS} (h : nS_40 a g = some r) (kf : zgr r C ∧ zK x 66 3017 [(0, .ref 950), (1, .ref 0), (2, .ref 42), (3, .ref 72), (4, .int i)] [] zD r (A0 + (C / 64 - r.2.2.2 / 64)) (B0 + 2 * (C - r.2.2.2))) : zgr g C ∧ zK x 66 2570 [(0, .ref 950), (1, .ref 0), (2, .ref 42), (3, .ref 72), (4, .int i)] [] zD g (A0 + 1 + (C / 64 - g.2.2.2 / 64)) (B0 + 6 + 2 * (C - g.2.2.2)) := by
  unfold nS_40 at h
  refine And.imp_right (fun kk => z_aload_n (pc := 2570) hG 1 rfl rfl dL_law_2570 kk) ?_
  refine And.imp_right (fun kk => z_aload_n (pc := 2571) hG 0 rfl rfl dL_law_2571 kk) ?_
  refine And.imp_right (fun kk => z_iload (pc := 2572) hG 4 rfl dL_law_2572 kk) ?_
  refine And.imp_right (fun kk => z_iconst (pc := 2574) hG kc_1 dL_law_2574 kk) ?_
  refine And.imp_right (fun kk => z_iadd (pc := 2575) hG dL_law_2575 kk) ?_
  refine And.imp_right (fun kk => z_scr (pc := 2576) hG hS 1 (by decide) rfl dL_law_2576 kk) ?_
  refine And.imp_right (fun kk => z_aload_n (pc := 2577) hG 0 rfl rfl dL_law_2577 kk) ?_
  refine And.imp_right (fun kk => z_iload (pc := 2578) hG 4 rfl dL_law_2578 kk) ?_
  refine And.imp_right (fun kk => z_iconst (pc := 2580) hG kc_2 dL_law_2580 kk) ?_
  refine And.imp_right (fun kk => z_iadd (pc := 2581) hG dL_law_2581 kk) ?_
  refine And.imp_right (fun kk => z_scr (pc := 2582) hG hS 2 (by decide) rfl dL_law_2582 kk) ?_
  refine And.imp_right (fun kk => z_aload_n (pc := 2583) hG 3 rfl rfl dL_law_2583 kk) ?_
  replace h := zbind h
  obtain ⟨v1, hv1, h⟩ := h
  replace h := zchk_some h
  obtain ⟨hqv1, h⟩ := h
  refine And.imp_right (fun kk => z_csH (A' := A0 + (C / 64 - g.2.2.2 / 64)) (B' := B0 + 2 * (C - g.2.2.2)) (rest := []) hG hPx [.ref 0, .int (a 1), .int (a 2), .ref 72] (tL_bunch hl0 (a 1) (a 2) g hv1) zyH_bunch w1355 w1354 dL_law_2584 rfl (Nat.le_of_ble_eq_true rfl) (by omega) (by omega) rfl (Nat.le_of_ble_eq_true rfl) rfl kk) ?_
  refine zpc (of_decide_eq_true hqv1) ?_
  refine And.imp_right (fun kk => z_istore (pc := 2587) (ls' := [(5, .int v1.1), (0, .ref 950), (1, .ref 0), (2, .ref 42), (3, .ref 72), (4, .int i)]) hG [0, 1, 2, 3, 4, 5] (by decide) rfl dL_law_2587 kk) ?_
  refine And.imp_right (fun kk => z_aload_n (pc := 2589) hG 3 rfl rfl dL_law_2589 kk) ?_
  refine And.imp_right (fun kk => z_aload_n (pc := 2590) hG 1 rfl rfl dL_law_2590 kk) ?_
  refine And.imp_right (fun kk => z_iload (pc := 2591) hG 5 rfl dL_law_2591 kk) ?_
  refine And.imp_right (fun kk => z_iconst (pc := 2593) hG kc_1 dL_law_2593 kk) ?_
  refine And.imp_right (fun kk => z_iadd (pc := 2594) hG dL_law_2594 kk) ?_
  refine And.imp_right (fun kk => z_scr (pc := 2595) hG hS 1 (by decide) rfl dL_law_2595 kk) ?_
  refine And.imp_right (fun kk => z_aload_n (pc := 2596) hG 1 rfl rfl dL_law_2596 kk) ?_
  refine And.imp_right (fun kk => z_iload (pc := 2597) hG 5 rfl dL_law_2597 kk) ?_
  refine And.imp_right (fun kk => z_iconst (pc := 2599) hG kc_2 dL_law_2599 kk) ?_
  refine And.imp_right (fun kk => z_iadd (pc := 2600) hG dL_law_2600 kk) ?_
  refine And.imp_right (fun kk => z_scr (pc := 2601) hG hS 2 (by decide) rfl dL_law_2601 kk) ?_
  replace h := zbind h
  obtain ⟨v2, hv2, h⟩ := h
  replace h := zchk_some h
  obtain ⟨hqv2, h⟩ := h
  refine And.imp_right (fun kk => z_cvI (A' := A0 + (C / 64 - v1.2.2.2.2 / 64)) (B' := B0 + 2 * (C - v1.2.2.2.2)) (nc := 0) (ns := 0) (rest := []) hG [.int (a 1), .int (a 2)] zc_X11 DL_42 (tX11_bunch hl0 (a 1) (a 2) v1.2 hv2) zy_X11_bunch ⟨w2020, w2021⟩ w2019 dL_law_2602 rfl (Nat.le_of_ble_eq_true rfl) (by omega) (by omega) rfl (Nat.le_of_ble_eq_true rfl) rfl kk) ?_
  refine zpc (of_decide_eq_true hqv2) ?_
  refine And.imp_right (fun kk => z_istore (pc := 2605) (ls' := [(6, .int v2.1), (5, .int v1.1), (0, .ref 950), (1, .ref 0), (2, .ref 42), (3, .ref 72), (4, .int i)]) hG [0, 1, 2, 3, 4, 5, 6] (by decide) rfl dL_law_2605 kk) ?_
  refine And.imp_right (fun kk => z_aload_n (pc := 2607) hG 4 rfl rfl dL_law_2607 kk) ?_
  replace h := zbind h
  obtain ⟨v3, hv3, h⟩ := h
  refine And.imp_right (fun kk => z_cvI (A' := A0 + (C / 64 - v2.2.2.2.2 / 64)) (B' := B0 + 2 * (C - v2.2.2.2.2)) (nc := 0) (ns := 0) (rest := []) hG [] zc_X11 DL_42 (tX11_thrown hl0  v2.2 hv3) zy_X11_thrown ⟨w1595, w1596⟩ w1594 dL_law_2608 rfl (Nat.le_of_ble_eq_true rfl) (by omega) (by omega) rfl (Nat.le_of_ble_eq_true rfl) rfl kk) ?_
  refine And.imp_right (fun kk => z_iload (pc := 2611) hG 1 rfl dL_law_2611 kk) ?_
  by_cases hc : v3 = v1.1
  rotate_left
  · replace h := zif_f hc h
    cases h
  replace h := zif_t hc h
  refine And.imp_right (fun kk => z_icmp_eq (pc := 2613) (tgt := 2618) hG dL_law_2613 rfl (fun _ => kk) (fun q => (q hc).elim)) ?_
  refine And.imp_right (fun kk => z_iload (pc := 2618) hG 1 rfl dL_law_2618 kk) ?_
  refine zbr (c := v1.1 = 0) (fun hc => ?_) (fun hc => ?_) (fun k1 k2 => z_if_ne (pc := 2620) (tgt := 2635) hG dL_law_2620 rfl k2 k1)
  · replace h := zif_t hc h
    refine And.imp_right (fun kk => z_aload_n (pc := 2623) hG 5 rfl rfl dL_law_2623 kk) ?_
    refine And.imp_right (fun kk => z_iconst (pc := 2624) hG kc_0 dL_law_2624 kk) ?_
    refine And.imp_right (fun kk => z_lald (pc := 2625) hG DL_72 (zin_in (by decide)) dL_law_2625 kk) ?_
    refine And.imp_right (fun kk => z_iload (pc := 2626) hG 0 rfl dL_law_2626 kk) ?_
    refine And.imp_right (fun kk => z_i2l (pc := 2628) hG dL_law_2628 kk) ?_
    refine And.imp_right (fun kk => z_lcmp (pc := 2629) hG dL_law_2629 kk) ?_
    by_cases hc : (lg_cmp (v2.2.2.1 72 (0 : Int32).toNatClampNeg) v2.1.toInt64) = 0
    rotate_left
    · replace h := zif_f hc h
      cases h
    replace h := zif_t hc h
    refine And.imp_right (fun kk => z_if_eq (pc := 2630) (tgt := 2635) hG dL_law_2630 rfl (fun _ => kk) (fun q => (q hc).elim)) ?_
    refine And.imp_right (fun kk => z_goto (pc := 2635) (tgt := 3017) hG dL_law_2635 rfl kk) ?_
    obtain rfl := Option.some.inj h
    refine And.imp_right (fun kk => z_sub (ls' := [(0, .ref 950), (1, .ref 0), (2, .ref 42), (3, .ref 72), (4, .int i)]) [2, 3, 4, 5, 6] rfl kk) ?_
    exact kf
  · replace h := zif_f hc h
    refine And.imp_right (fun kk => z_goto (pc := 2635) (tgt := 3017) hG dL_law_2635 rfl kk) ?_
    obtain rfl := Option.some.inj h
    refine And.imp_right (fun kk => z_sub (ls' := [(0, .ref 950), (1, .ref 0), (2, .ref 42), (3, .ref 72), (4, .int i)]) [2, 3, 4, 5, 6] rfl kk) ?_
    exact kf
noncomputable def nS_41 (a : Nat → Int32) (g : zS) : Option zS :=
  (nL_changes (a 1) g).bind fun v1 => zchk (decide (v1.2.2.2.2 = g.2.2.2)) ((nX11_changes (a 1) v1.2).bind fun v2 => zchk (decide (v2.2.2.2.2 = v1.2.2.2.2)) ((nX11_thrown v2.2).bind fun v3 => if v3 = v1.1 then (if v1.1 = 0 then (if (lg_cmp (v2.2.2.1 72 (0 : Int32).toNatClampNeg) v2.1.toInt64) = 0 then (some v2.2) else (none)) else (some v2.2)) else (none)))
set_option maxHeartbeats 1000000 in
theorem tS_41 {x : zXx} {i : Int32} {a : Nat → Int32} (hl0 : (zl0 x).flags = flags0) (hG : zG x cL_law 7 RL ret) (hPx : zPx x.2.2.2.2.1) (hS : zScr x i a) {A0 B0 C : Nat} (g : zS) {r : zS} (h : nS_41 a g = some r) (kf : zgr r C ∧ zK x 66 3017 [(0, .ref 950), (1, .ref 0), (2, .ref 42), (3, .ref 72), (4, .int i)] [] zD r (A0 + (C / 64 - r.2.2.2 / 64)) (B0 + 2 * (C - r.2.2.2))) : zgr g C ∧ zK x 66 2638 [(0, .ref 950), (1, .ref 0), (2, .ref 42), (3, .ref 72), (4, .int i)] [] zD g (A0 + 1 + (C / 64 - g.2.2.2 / 64)) (B0 + 6 + 2 * (C - g.2.2.2)) := by
  unfold nS_41 at h
  refine And.imp_right (fun kk => z_aload_n (pc := 2638) hG 1 rfl rfl dL_law_2638 kk) ?_
  refine And.imp_right (fun kk => z_aload_n (pc := 2639) hG 0 rfl rfl dL_law_2639 kk) ?_
  refine And.imp_right (fun kk => z_iload (pc := 2640) hG 4 rfl dL_law_2640 kk) ?_
  refine And.imp_right (fun kk => z_iconst (pc := 2642) hG kc_1 dL_law_2642 kk) ?_
  refine And.imp_right (fun kk => z_iadd (pc := 2643) hG dL_law_2643 kk) ?_
  refine And.imp_right (fun kk => z_scr (pc := 2644) hG hS 1 (by decide) rfl dL_law_2644 kk) ?_
  refine And.imp_right (fun kk => z_aload_n (pc := 2645) hG 3 rfl rfl dL_law_2645 kk) ?_
  replace h := zbind h
  obtain ⟨v1, hv1, h⟩ := h
  replace h := zchk_some h
  obtain ⟨hqv1, h⟩ := h
  refine And.imp_right (fun kk => z_csH (A' := A0 + (C / 64 - g.2.2.2 / 64)) (B' := B0 + 2 * (C - g.2.2.2)) (rest := []) hG hPx [.ref 0, .int (a 1), .ref 72] (tL_changes hl0 (a 1) g hv1) zyH_changes w1377 w1376 dL_law_2646 rfl (Nat.le_of_ble_eq_true rfl) (by omega) (by omega) rfl (Nat.le_of_ble_eq_true rfl) rfl kk) ?_
  refine zpc (of_decide_eq_true hqv1) ?_
  refine And.imp_right (fun kk => z_istore (pc := 2649) (ls' := [(5, .int v1.1), (0, .ref 950), (1, .ref 0), (2, .ref 42), (3, .ref 72), (4, .int i)]) hG [0, 1, 2, 3, 4, 5] (by decide) rfl dL_law_2649 kk) ?_
  refine And.imp_right (fun kk => z_aload_n (pc := 2651) hG 3 rfl rfl dL_law_2651 kk) ?_
  refine And.imp_right (fun kk => z_aload_n (pc := 2652) hG 1 rfl rfl dL_law_2652 kk) ?_
  refine And.imp_right (fun kk => z_iload (pc := 2653) hG 5 rfl dL_law_2653 kk) ?_
  refine And.imp_right (fun kk => z_iconst (pc := 2655) hG kc_1 dL_law_2655 kk) ?_
  refine And.imp_right (fun kk => z_iadd (pc := 2656) hG dL_law_2656 kk) ?_
  refine And.imp_right (fun kk => z_scr (pc := 2657) hG hS 1 (by decide) rfl dL_law_2657 kk) ?_
  replace h := zbind h
  obtain ⟨v2, hv2, h⟩ := h
  replace h := zchk_some h
  obtain ⟨hqv2, h⟩ := h
  refine And.imp_right (fun kk => z_cvI (A' := A0 + (C / 64 - v1.2.2.2.2 / 64)) (B' := B0 + 2 * (C - v1.2.2.2.2)) (nc := 0) (ns := 0) (rest := []) hG [.int (a 1)] zc_X11 DL_42 (tX11_changes hl0 (a 1) v1.2 hv2) zy_X11_changes ⟨w2024, w2025⟩ w2023 dL_law_2658 rfl (Nat.le_of_ble_eq_true rfl) (by omega) (by omega) rfl (Nat.le_of_ble_eq_true rfl) rfl kk) ?_
  refine zpc (of_decide_eq_true hqv2) ?_
  refine And.imp_right (fun kk => z_istore (pc := 2661) (ls' := [(6, .int v2.1), (5, .int v1.1), (0, .ref 950), (1, .ref 0), (2, .ref 42), (3, .ref 72), (4, .int i)]) hG [0, 1, 2, 3, 4, 5, 6] (by decide) rfl dL_law_2661 kk) ?_
  refine And.imp_right (fun kk => z_aload_n (pc := 2663) hG 4 rfl rfl dL_law_2663 kk) ?_
  replace h := zbind h
  obtain ⟨v3, hv3, h⟩ := h
  refine And.imp_right (fun kk => z_cvI (A' := A0 + (C / 64 - v2.2.2.2.2 / 64)) (B' := B0 + 2 * (C - v2.2.2.2.2)) (nc := 0) (ns := 0) (rest := []) hG [] zc_X11 DL_42 (tX11_thrown hl0  v2.2 hv3) zy_X11_thrown ⟨w1595, w1596⟩ w1594 dL_law_2664 rfl (Nat.le_of_ble_eq_true rfl) (by omega) (by omega) rfl (Nat.le_of_ble_eq_true rfl) rfl kk) ?_
  refine And.imp_right (fun kk => z_iload (pc := 2667) hG 1 rfl dL_law_2667 kk) ?_
  by_cases hc : v3 = v1.1
  rotate_left
  · replace h := zif_f hc h
    cases h
  replace h := zif_t hc h
  refine And.imp_right (fun kk => z_icmp_eq (pc := 2669) (tgt := 2674) hG dL_law_2669 rfl (fun _ => kk) (fun q => (q hc).elim)) ?_
  refine And.imp_right (fun kk => z_iload (pc := 2674) hG 1 rfl dL_law_2674 kk) ?_
  refine zbr (c := v1.1 = 0) (fun hc => ?_) (fun hc => ?_) (fun k1 k2 => z_if_ne (pc := 2676) (tgt := 2691) hG dL_law_2676 rfl k2 k1)
  · replace h := zif_t hc h
    refine And.imp_right (fun kk => z_aload_n (pc := 2679) hG 5 rfl rfl dL_law_2679 kk) ?_
    refine And.imp_right (fun kk => z_iconst (pc := 2680) hG kc_0 dL_law_2680 kk) ?_
    refine And.imp_right (fun kk => z_lald (pc := 2681) hG DL_72 (zin_in (by decide)) dL_law_2681 kk) ?_
    refine And.imp_right (fun kk => z_iload (pc := 2682) hG 0 rfl dL_law_2682 kk) ?_
    refine And.imp_right (fun kk => z_i2l (pc := 2684) hG dL_law_2684 kk) ?_
    refine And.imp_right (fun kk => z_lcmp (pc := 2685) hG dL_law_2685 kk) ?_
    by_cases hc : (lg_cmp (v2.2.2.1 72 (0 : Int32).toNatClampNeg) v2.1.toInt64) = 0
    rotate_left
    · replace h := zif_f hc h
      cases h
    replace h := zif_t hc h
    refine And.imp_right (fun kk => z_if_eq (pc := 2686) (tgt := 2691) hG dL_law_2686 rfl (fun _ => kk) (fun q => (q hc).elim)) ?_
    refine And.imp_right (fun kk => z_goto (pc := 2691) (tgt := 3017) hG dL_law_2691 rfl kk) ?_
    obtain rfl := Option.some.inj h
    refine And.imp_right (fun kk => z_sub (ls' := [(0, .ref 950), (1, .ref 0), (2, .ref 42), (3, .ref 72), (4, .int i)]) [2, 3, 4, 5, 6] rfl kk) ?_
    exact kf
  · replace h := zif_f hc h
    refine And.imp_right (fun kk => z_goto (pc := 2691) (tgt := 3017) hG dL_law_2691 rfl kk) ?_
    obtain rfl := Option.some.inj h
    refine And.imp_right (fun kk => z_sub (ls' := [(0, .ref 950), (1, .ref 0), (2, .ref 42), (3, .ref 72), (4, .int i)]) [2, 3, 4, 5, 6] rfl kk) ?_
    exact kf
noncomputable def nS_42 (a : Nat → Int32) (g : zS) : Option zS :=
  (nX10_unlike g).bind fun v1 => zchk (decide (v1.2.2.2.2 = g.2.2.2)) ((nX11_unlike v1.2).bind fun v2 => zchk (decide (v2.2.2.2.2 = v1.2.2.2.2)) (if v1.1 = v2.1 then (some v2.2) else (none)))
set_option maxHeartbeats 1000000 in
theorem tS_42 {x : zXx} {i : Int32} {a : Nat → Int32} (hl0 : (zl0 x).flags = flags0) (hG : zG x cL_law 7 RL ret) (hPx : zPx x.2.2.2.2.1) (hS : zScr x i a) {A0 B0 C : Nat} (g : zS) {r : zS} (h : nS_42 a g = some r) (kf : zgr r C ∧ zK x 66 3017 [(0, .ref 950), (1, .ref 0), (2, .ref 42), (3, .ref 72), (4, .int i)] [] zD r (A0 + (C / 64 - r.2.2.2 / 64)) (B0 + 2 * (C - r.2.2.2))) : zgr g C ∧ zK x 66 2694 [(0, .ref 950), (1, .ref 0), (2, .ref 42), (3, .ref 72), (4, .int i)] [] zD g (A0 + 0 + (C / 64 - g.2.2.2 / 64)) (B0 + 0 + 2 * (C - g.2.2.2)) := by
  unfold nS_42 at h
  refine And.imp_right (fun kk => z_aload_n (pc := 2694) hG 1 rfl rfl dL_law_2694 kk) ?_
  replace h := zbind h
  obtain ⟨v1, hv1, h⟩ := h
  replace h := zchk_some h
  obtain ⟨hqv1, h⟩ := h
  refine And.imp_right (fun kk => z_cvI (A' := A0 + (C / 64 - g.2.2.2 / 64)) (B' := B0 + 2 * (C - g.2.2.2)) (nc := 0) (ns := 0) (rest := []) hG [] zc_X10 DL_0 (tX10_unlike hl0  g hv1) zy_X10_unlike ⟨w514, w515⟩ w513 dL_law_2695 rfl (Nat.le_of_ble_eq_true rfl) (by omega) (by omega) rfl (Nat.le_of_ble_eq_true rfl) rfl kk) ?_
  refine zpc (of_decide_eq_true hqv1) ?_
  refine And.imp_right (fun kk => z_aload_n (pc := 2698) hG 2 rfl rfl dL_law_2698 kk) ?_
  replace h := zbind h
  obtain ⟨v2, hv2, h⟩ := h
  replace h := zchk_some h
  obtain ⟨hqv2, h⟩ := h
  refine And.imp_right (fun kk => z_cvI (A' := A0 + (C / 64 - v1.2.2.2.2 / 64)) (B' := B0 + 2 * (C - v1.2.2.2.2)) (nc := 0) (ns := 0) (rest := [.int v1.1]) hG [] zc_X11 DL_42 (tX11_unlike hl0  v1.2 hv2) zy_X11_unlike ⟨w2028, w2029⟩ w2027 dL_law_2699 rfl (Nat.le_of_ble_eq_true rfl) (by omega) (by omega) rfl (Nat.le_of_ble_eq_true rfl) rfl kk) ?_
  refine zpc (of_decide_eq_true hqv2) ?_
  by_cases hc : v1.1 = v2.1
  rotate_left
  · replace h := zif_f hc h
    cases h
  replace h := zif_t hc h
  refine And.imp_right (fun kk => z_icmp_eq (pc := 2702) (tgt := 3017) hG dL_law_2702 rfl (fun _ => kk) (fun q => (q hc).elim)) ?_
  obtain rfl := Option.some.inj h
  exact kf
noncomputable def nS_43 (a : Nat → Int32) (g : zS) : Option zS :=
  (nL_group (a 1) (a 2) g).bind fun v1 => zchk (decide (v1.2.2.2.2 = g.2.2.2)) ((nX11_group (a 1) (a 2) v1.2).bind fun v2 => zchk (decide (v2.2.2.2.2 = v1.2.2.2.2)) ((nX11_thrown v2.2).bind fun v3 => if v3 = v1.1 then (if v1.1 = 0 then (if (lg_cmp (v2.2.2.1 72 (0 : Int32).toNatClampNeg) v2.1.toInt64) = 0 then (some v2.2) else (none)) else (some v2.2)) else (none)))
set_option maxHeartbeats 1000000 in
theorem tS_43 {x : zXx} {i : Int32} {a : Nat → Int32} (hl0 : (zl0 x).flags = flags0) (hG : zG x cL_law 7 RL ret) (hPx : zPx x.2.2.2.2.1) (hS : zScr x i a) {A0 B0 C : Nat} (g : zS) {r : zS} (h : nS_43 a g = some r) (kf : zgr r C ∧ zK x 66 3017 [(0, .ref 950), (1, .ref 0), (2, .ref 42), (3, .ref 72), (4, .int i)] [] zD r (A0 + (C / 64 - r.2.2.2 / 64)) (B0 + 2 * (C - r.2.2.2))) : zgr g C ∧ zK x 66 2707 [(0, .ref 950), (1, .ref 0), (2, .ref 42), (3, .ref 72), (4, .int i)] [] zD g (A0 + 2 + (C / 64 - g.2.2.2 / 64)) (B0 + 12 + 2 * (C - g.2.2.2)) := by
  unfold nS_43 at h
  refine And.imp_right (fun kk => z_aload_n (pc := 2707) hG 1 rfl rfl dL_law_2707 kk) ?_
  refine And.imp_right (fun kk => z_aload_n (pc := 2708) hG 0 rfl rfl dL_law_2708 kk) ?_
  refine And.imp_right (fun kk => z_iload (pc := 2709) hG 4 rfl dL_law_2709 kk) ?_
  refine And.imp_right (fun kk => z_iconst (pc := 2711) hG kc_1 dL_law_2711 kk) ?_
  refine And.imp_right (fun kk => z_iadd (pc := 2712) hG dL_law_2712 kk) ?_
  refine And.imp_right (fun kk => z_scr (pc := 2713) hG hS 1 (by decide) rfl dL_law_2713 kk) ?_
  refine And.imp_right (fun kk => z_aload_n (pc := 2714) hG 0 rfl rfl dL_law_2714 kk) ?_
  refine And.imp_right (fun kk => z_iload (pc := 2715) hG 4 rfl dL_law_2715 kk) ?_
  refine And.imp_right (fun kk => z_iconst (pc := 2717) hG kc_2 dL_law_2717 kk) ?_
  refine And.imp_right (fun kk => z_iadd (pc := 2718) hG dL_law_2718 kk) ?_
  refine And.imp_right (fun kk => z_scr (pc := 2719) hG hS 2 (by decide) rfl dL_law_2719 kk) ?_
  refine And.imp_right (fun kk => z_aload_n (pc := 2720) hG 3 rfl rfl dL_law_2720 kk) ?_
  replace h := zbind h
  obtain ⟨v1, hv1, h⟩ := h
  replace h := zchk_some h
  obtain ⟨hqv1, h⟩ := h
  refine And.imp_right (fun kk => z_csH (A' := A0 + (C / 64 - g.2.2.2 / 64)) (B' := B0 + 2 * (C - g.2.2.2)) (rest := []) hG hPx [.ref 0, .int (a 1), .int (a 2), .ref 72] (tL_group hl0 (a 1) (a 2) g hv1) zyH_group w1389 w1388 dL_law_2721 rfl (Nat.le_of_ble_eq_true rfl) (by omega) (by omega) rfl (Nat.le_of_ble_eq_true rfl) rfl kk) ?_
  refine zpc (of_decide_eq_true hqv1) ?_
  refine And.imp_right (fun kk => z_istore (pc := 2724) (ls' := [(5, .int v1.1), (0, .ref 950), (1, .ref 0), (2, .ref 42), (3, .ref 72), (4, .int i)]) hG [0, 1, 2, 3, 4, 5] (by decide) rfl dL_law_2724 kk) ?_
  refine And.imp_right (fun kk => z_aload_n (pc := 2726) hG 3 rfl rfl dL_law_2726 kk) ?_
  refine And.imp_right (fun kk => z_aload_n (pc := 2727) hG 1 rfl rfl dL_law_2727 kk) ?_
  refine And.imp_right (fun kk => z_iload (pc := 2728) hG 5 rfl dL_law_2728 kk) ?_
  refine And.imp_right (fun kk => z_iconst (pc := 2730) hG kc_1 dL_law_2730 kk) ?_
  refine And.imp_right (fun kk => z_iadd (pc := 2731) hG dL_law_2731 kk) ?_
  refine And.imp_right (fun kk => z_scr (pc := 2732) hG hS 1 (by decide) rfl dL_law_2732 kk) ?_
  refine And.imp_right (fun kk => z_aload_n (pc := 2733) hG 1 rfl rfl dL_law_2733 kk) ?_
  refine And.imp_right (fun kk => z_iload (pc := 2734) hG 5 rfl dL_law_2734 kk) ?_
  refine And.imp_right (fun kk => z_iconst (pc := 2736) hG kc_2 dL_law_2736 kk) ?_
  refine And.imp_right (fun kk => z_iadd (pc := 2737) hG dL_law_2737 kk) ?_
  refine And.imp_right (fun kk => z_scr (pc := 2738) hG hS 2 (by decide) rfl dL_law_2738 kk) ?_
  replace h := zbind h
  obtain ⟨v2, hv2, h⟩ := h
  replace h := zchk_some h
  obtain ⟨hqv2, h⟩ := h
  refine And.imp_right (fun kk => z_cvI (A' := A0 + (C / 64 - v1.2.2.2.2 / 64)) (B' := B0 + 2 * (C - v1.2.2.2.2)) (nc := 0) (ns := 0) (rest := []) hG [.int (a 1), .int (a 2)] zc_X11 DL_42 (tX11_group hl0 (a 1) (a 2) v1.2 hv2) zy_X11_group ⟨w2032, w2033⟩ w2031 dL_law_2739 rfl (Nat.le_of_ble_eq_true rfl) (by omega) (by omega) rfl (Nat.le_of_ble_eq_true rfl) rfl kk) ?_
  refine zpc (of_decide_eq_true hqv2) ?_
  refine And.imp_right (fun kk => z_istore (pc := 2742) (ls' := [(6, .int v2.1), (5, .int v1.1), (0, .ref 950), (1, .ref 0), (2, .ref 42), (3, .ref 72), (4, .int i)]) hG [0, 1, 2, 3, 4, 5, 6] (by decide) rfl dL_law_2742 kk) ?_
  refine And.imp_right (fun kk => z_aload_n (pc := 2744) hG 4 rfl rfl dL_law_2744 kk) ?_
  replace h := zbind h
  obtain ⟨v3, hv3, h⟩ := h
  refine And.imp_right (fun kk => z_cvI (A' := A0 + (C / 64 - v2.2.2.2.2 / 64)) (B' := B0 + 2 * (C - v2.2.2.2.2)) (nc := 0) (ns := 0) (rest := []) hG [] zc_X11 DL_42 (tX11_thrown hl0  v2.2 hv3) zy_X11_thrown ⟨w1595, w1596⟩ w1594 dL_law_2745 rfl (Nat.le_of_ble_eq_true rfl) (by omega) (by omega) rfl (Nat.le_of_ble_eq_true rfl) rfl kk) ?_
  refine And.imp_right (fun kk => z_iload (pc := 2748) hG 1 rfl dL_law_2748 kk) ?_
  by_cases hc : v3 = v1.1
  rotate_left
  · replace h := zif_f hc h
    cases h
  replace h := zif_t hc h
  refine And.imp_right (fun kk => z_icmp_eq (pc := 2750) (tgt := 2755) hG dL_law_2750 rfl (fun _ => kk) (fun q => (q hc).elim)) ?_
  refine And.imp_right (fun kk => z_iload (pc := 2755) hG 1 rfl dL_law_2755 kk) ?_
  refine zbr (c := v1.1 = 0) (fun hc => ?_) (fun hc => ?_) (fun k1 k2 => z_if_ne (pc := 2757) (tgt := 2772) hG dL_law_2757 rfl k2 k1)
  · replace h := zif_t hc h
    refine And.imp_right (fun kk => z_aload_n (pc := 2760) hG 5 rfl rfl dL_law_2760 kk) ?_
    refine And.imp_right (fun kk => z_iconst (pc := 2761) hG kc_0 dL_law_2761 kk) ?_
    refine And.imp_right (fun kk => z_lald (pc := 2762) hG DL_72 (zin_in (by decide)) dL_law_2762 kk) ?_
    refine And.imp_right (fun kk => z_iload (pc := 2763) hG 0 rfl dL_law_2763 kk) ?_
    refine And.imp_right (fun kk => z_i2l (pc := 2765) hG dL_law_2765 kk) ?_
    refine And.imp_right (fun kk => z_lcmp (pc := 2766) hG dL_law_2766 kk) ?_
    by_cases hc : (lg_cmp (v2.2.2.1 72 (0 : Int32).toNatClampNeg) v2.1.toInt64) = 0
    rotate_left
    · replace h := zif_f hc h
      cases h
    replace h := zif_t hc h
    refine And.imp_right (fun kk => z_if_eq (pc := 2767) (tgt := 2772) hG dL_law_2767 rfl (fun _ => kk) (fun q => (q hc).elim)) ?_
    refine And.imp_right (fun kk => z_goto (pc := 2772) (tgt := 3017) hG dL_law_2772 rfl kk) ?_
    obtain rfl := Option.some.inj h
    refine And.imp_right (fun kk => z_sub (ls' := [(0, .ref 950), (1, .ref 0), (2, .ref 42), (3, .ref 72), (4, .int i)]) [2, 3, 4, 5, 6] rfl kk) ?_
    exact kf
  · replace h := zif_f hc h
    refine And.imp_right (fun kk => z_goto (pc := 2772) (tgt := 3017) hG dL_law_2772 rfl kk) ?_
    obtain rfl := Option.some.inj h
    refine And.imp_right (fun kk => z_sub (ls' := [(0, .ref 950), (1, .ref 0), (2, .ref 42), (3, .ref 72), (4, .int i)]) [2, 3, 4, 5, 6] rfl kk) ?_
    exact kf
noncomputable def nS_44 (a : Nat → Int32) (g : zS) : Option zS :=
  (nL_usual (a 1) (a 2) g).bind fun v1 => zchk (decide (v1.2.2.2.2 = g.2.2.2)) ((nX11_usual (a 1) (a 2) v1.2).bind fun v2 => zchk (decide (v2.2.2.2.2 = v1.2.2.2.2)) ((nX11_thrown v2.2).bind fun v3 => if v3 = v1.1 then (if v1.1 = 0 then (if (lg_cmp (v2.2.2.1 72 (0 : Int32).toNatClampNeg) v2.1.toInt64) = 0 then (some v2.2) else (none)) else (some v2.2)) else (none)))
set_option maxHeartbeats 1000000 in
theorem tS_44 {x : zXx} {i : Int32} {a : Nat → Int32} (hl0 : (zl0 x).flags = flags0) (hG : zG x cL_law 7 RL ret) (hPx : zPx x.2.2.2.2.1) (hS : zScr x i a) {A0 B0 C : Nat} (g : zS) {r : zS} (h : nS_44 a g = some r) (kf : zgr r C ∧ zK x 66 3017 [(0, .ref 950), (1, .ref 0), (2, .ref 42), (3, .ref 72), (4, .int i)] [] zD r (A0 + (C / 64 - r.2.2.2 / 64)) (B0 + 2 * (C - r.2.2.2))) : zgr g C ∧ zK x 66 2775 [(0, .ref 950), (1, .ref 0), (2, .ref 42), (3, .ref 72), (4, .int i)] [] zD g (A0 + 2 + (C / 64 - g.2.2.2 / 64)) (B0 + 12 + 2 * (C - g.2.2.2)) := by
  unfold nS_44 at h
  refine And.imp_right (fun kk => z_aload_n (pc := 2775) hG 1 rfl rfl dL_law_2775 kk) ?_
  refine And.imp_right (fun kk => z_aload_n (pc := 2776) hG 0 rfl rfl dL_law_2776 kk) ?_
  refine And.imp_right (fun kk => z_iload (pc := 2777) hG 4 rfl dL_law_2777 kk) ?_
  refine And.imp_right (fun kk => z_iconst (pc := 2779) hG kc_1 dL_law_2779 kk) ?_
  refine And.imp_right (fun kk => z_iadd (pc := 2780) hG dL_law_2780 kk) ?_
  refine And.imp_right (fun kk => z_scr (pc := 2781) hG hS 1 (by decide) rfl dL_law_2781 kk) ?_
  refine And.imp_right (fun kk => z_aload_n (pc := 2782) hG 0 rfl rfl dL_law_2782 kk) ?_
  refine And.imp_right (fun kk => z_iload (pc := 2783) hG 4 rfl dL_law_2783 kk) ?_
  refine And.imp_right (fun kk => z_iconst (pc := 2785) hG kc_2 dL_law_2785 kk) ?_
  refine And.imp_right (fun kk => z_iadd (pc := 2786) hG dL_law_2786 kk) ?_
  refine And.imp_right (fun kk => z_scr (pc := 2787) hG hS 2 (by decide) rfl dL_law_2787 kk) ?_
  refine And.imp_right (fun kk => z_aload_n (pc := 2788) hG 3 rfl rfl dL_law_2788 kk) ?_
  replace h := zbind h
  obtain ⟨v1, hv1, h⟩ := h
  replace h := zchk_some h
  obtain ⟨hqv1, h⟩ := h
  refine And.imp_right (fun kk => z_csH (A' := A0 + (C / 64 - g.2.2.2 / 64)) (B' := B0 + 2 * (C - g.2.2.2)) (rest := []) hG hPx [.ref 0, .int (a 1), .int (a 2), .ref 72] (tL_usual hl0 (a 1) (a 2) g hv1) zyH_usual w1404 w1403 dL_law_2789 rfl (Nat.le_of_ble_eq_true rfl) (by omega) (by omega) rfl (Nat.le_of_ble_eq_true rfl) rfl kk) ?_
  refine zpc (of_decide_eq_true hqv1) ?_
  refine And.imp_right (fun kk => z_istore (pc := 2792) (ls' := [(5, .int v1.1), (0, .ref 950), (1, .ref 0), (2, .ref 42), (3, .ref 72), (4, .int i)]) hG [0, 1, 2, 3, 4, 5] (by decide) rfl dL_law_2792 kk) ?_
  refine And.imp_right (fun kk => z_aload_n (pc := 2794) hG 3 rfl rfl dL_law_2794 kk) ?_
  refine And.imp_right (fun kk => z_aload_n (pc := 2795) hG 1 rfl rfl dL_law_2795 kk) ?_
  refine And.imp_right (fun kk => z_iload (pc := 2796) hG 5 rfl dL_law_2796 kk) ?_
  refine And.imp_right (fun kk => z_iconst (pc := 2798) hG kc_1 dL_law_2798 kk) ?_
  refine And.imp_right (fun kk => z_iadd (pc := 2799) hG dL_law_2799 kk) ?_
  refine And.imp_right (fun kk => z_scr (pc := 2800) hG hS 1 (by decide) rfl dL_law_2800 kk) ?_
  refine And.imp_right (fun kk => z_aload_n (pc := 2801) hG 1 rfl rfl dL_law_2801 kk) ?_
  refine And.imp_right (fun kk => z_iload (pc := 2802) hG 5 rfl dL_law_2802 kk) ?_
  refine And.imp_right (fun kk => z_iconst (pc := 2804) hG kc_2 dL_law_2804 kk) ?_
  refine And.imp_right (fun kk => z_iadd (pc := 2805) hG dL_law_2805 kk) ?_
  refine And.imp_right (fun kk => z_scr (pc := 2806) hG hS 2 (by decide) rfl dL_law_2806 kk) ?_
  replace h := zbind h
  obtain ⟨v2, hv2, h⟩ := h
  replace h := zchk_some h
  obtain ⟨hqv2, h⟩ := h
  refine And.imp_right (fun kk => z_cvI (A' := A0 + (C / 64 - v1.2.2.2.2 / 64)) (B' := B0 + 2 * (C - v1.2.2.2.2)) (nc := 0) (ns := 0) (rest := []) hG [.int (a 1), .int (a 2)] zc_X11 DL_42 (tX11_usual hl0 (a 1) (a 2) v1.2 hv2) zy_X11_usual ⟨w1929, w1930⟩ w1928 dL_law_2807 rfl (Nat.le_of_ble_eq_true rfl) (by omega) (by omega) rfl (Nat.le_of_ble_eq_true rfl) rfl kk) ?_
  refine zpc (of_decide_eq_true hqv2) ?_
  refine And.imp_right (fun kk => z_istore (pc := 2810) (ls' := [(6, .int v2.1), (5, .int v1.1), (0, .ref 950), (1, .ref 0), (2, .ref 42), (3, .ref 72), (4, .int i)]) hG [0, 1, 2, 3, 4, 5, 6] (by decide) rfl dL_law_2810 kk) ?_
  refine And.imp_right (fun kk => z_aload_n (pc := 2812) hG 4 rfl rfl dL_law_2812 kk) ?_
  replace h := zbind h
  obtain ⟨v3, hv3, h⟩ := h
  refine And.imp_right (fun kk => z_cvI (A' := A0 + (C / 64 - v2.2.2.2.2 / 64)) (B' := B0 + 2 * (C - v2.2.2.2.2)) (nc := 0) (ns := 0) (rest := []) hG [] zc_X11 DL_42 (tX11_thrown hl0  v2.2 hv3) zy_X11_thrown ⟨w1595, w1596⟩ w1594 dL_law_2813 rfl (Nat.le_of_ble_eq_true rfl) (by omega) (by omega) rfl (Nat.le_of_ble_eq_true rfl) rfl kk) ?_
  refine And.imp_right (fun kk => z_iload (pc := 2816) hG 1 rfl dL_law_2816 kk) ?_
  by_cases hc : v3 = v1.1
  rotate_left
  · replace h := zif_f hc h
    cases h
  replace h := zif_t hc h
  refine And.imp_right (fun kk => z_icmp_eq (pc := 2818) (tgt := 2823) hG dL_law_2818 rfl (fun _ => kk) (fun q => (q hc).elim)) ?_
  refine And.imp_right (fun kk => z_iload (pc := 2823) hG 1 rfl dL_law_2823 kk) ?_
  refine zbr (c := v1.1 = 0) (fun hc => ?_) (fun hc => ?_) (fun k1 k2 => z_if_ne (pc := 2825) (tgt := 2840) hG dL_law_2825 rfl k2 k1)
  · replace h := zif_t hc h
    refine And.imp_right (fun kk => z_aload_n (pc := 2828) hG 5 rfl rfl dL_law_2828 kk) ?_
    refine And.imp_right (fun kk => z_iconst (pc := 2829) hG kc_0 dL_law_2829 kk) ?_
    refine And.imp_right (fun kk => z_lald (pc := 2830) hG DL_72 (zin_in (by decide)) dL_law_2830 kk) ?_
    refine And.imp_right (fun kk => z_iload (pc := 2831) hG 0 rfl dL_law_2831 kk) ?_
    refine And.imp_right (fun kk => z_i2l (pc := 2833) hG dL_law_2833 kk) ?_
    refine And.imp_right (fun kk => z_lcmp (pc := 2834) hG dL_law_2834 kk) ?_
    by_cases hc : (lg_cmp (v2.2.2.1 72 (0 : Int32).toNatClampNeg) v2.1.toInt64) = 0
    rotate_left
    · replace h := zif_f hc h
      cases h
    replace h := zif_t hc h
    refine And.imp_right (fun kk => z_if_eq (pc := 2835) (tgt := 2840) hG dL_law_2835 rfl (fun _ => kk) (fun q => (q hc).elim)) ?_
    refine And.imp_right (fun kk => z_goto (pc := 2840) (tgt := 3017) hG dL_law_2840 rfl kk) ?_
    obtain rfl := Option.some.inj h
    refine And.imp_right (fun kk => z_sub (ls' := [(0, .ref 950), (1, .ref 0), (2, .ref 42), (3, .ref 72), (4, .int i)]) [2, 3, 4, 5, 6] rfl kk) ?_
    exact kf
  · replace h := zif_f hc h
    refine And.imp_right (fun kk => z_goto (pc := 2840) (tgt := 3017) hG dL_law_2840 rfl kk) ?_
    obtain rfl := Option.some.inj h
    refine And.imp_right (fun kk => z_sub (ls' := [(0, .ref 950), (1, .ref 0), (2, .ref 42), (3, .ref 72), (4, .int i)]) [2, 3, 4, 5, 6] rfl kk) ?_
    exact kf
noncomputable def nS_45 (a : Nat → Int32) (g : zS) : Option zS :=
  (nL_share (a 1) (a 2) g).bind fun v1 => zchk (decide (v1.2.2.2.2 = g.2.2.2)) ((nX11_share (a 1) (a 2) v1.2).bind fun v2 => zchk (decide (v2.2.2.2.2 = v1.2.2.2.2)) ((nX11_thrown v2.2).bind fun v3 => if v3 = v1.1 then (if v1.1 = 0 then (if (lg_cmp (v2.2.2.1 72 (0 : Int32).toNatClampNeg) v2.1.toInt64) = 0 then (some v2.2) else (none)) else (some v2.2)) else (none)))
set_option maxHeartbeats 1000000 in
theorem tS_45 {x : zXx} {i : Int32} {a : Nat → Int32} (hl0 : (zl0 x).flags = flags0) (hG : zG x cL_law 7 RL ret) (hPx : zPx x.2.2.2.2.1) (hS : zScr x i a) {A0 B0 C : Nat} (g : zS) {r : zS} (h : nS_45 a g = some r) (kf : zgr r C ∧ zK x 66 3017 [(0, .ref 950), (1, .ref 0), (2, .ref 42), (3, .ref 72), (4, .int i)] [] zD r (A0 + (C / 64 - r.2.2.2 / 64)) (B0 + 2 * (C - r.2.2.2))) : zgr g C ∧ zK x 66 2843 [(0, .ref 950), (1, .ref 0), (2, .ref 42), (3, .ref 72), (4, .int i)] [] zD g (A0 + 2 + (C / 64 - g.2.2.2 / 64)) (B0 + 12 + 2 * (C - g.2.2.2)) := by
  unfold nS_45 at h
  refine And.imp_right (fun kk => z_aload_n (pc := 2843) hG 1 rfl rfl dL_law_2843 kk) ?_
  refine And.imp_right (fun kk => z_aload_n (pc := 2844) hG 0 rfl rfl dL_law_2844 kk) ?_
  refine And.imp_right (fun kk => z_iload (pc := 2845) hG 4 rfl dL_law_2845 kk) ?_
  refine And.imp_right (fun kk => z_iconst (pc := 2847) hG kc_1 dL_law_2847 kk) ?_
  refine And.imp_right (fun kk => z_iadd (pc := 2848) hG dL_law_2848 kk) ?_
  refine And.imp_right (fun kk => z_scr (pc := 2849) hG hS 1 (by decide) rfl dL_law_2849 kk) ?_
  refine And.imp_right (fun kk => z_aload_n (pc := 2850) hG 0 rfl rfl dL_law_2850 kk) ?_
  refine And.imp_right (fun kk => z_iload (pc := 2851) hG 4 rfl dL_law_2851 kk) ?_
  refine And.imp_right (fun kk => z_iconst (pc := 2853) hG kc_2 dL_law_2853 kk) ?_
  refine And.imp_right (fun kk => z_iadd (pc := 2854) hG dL_law_2854 kk) ?_
  refine And.imp_right (fun kk => z_scr (pc := 2855) hG hS 2 (by decide) rfl dL_law_2855 kk) ?_
  refine And.imp_right (fun kk => z_aload_n (pc := 2856) hG 3 rfl rfl dL_law_2856 kk) ?_
  replace h := zbind h
  obtain ⟨v1, hv1, h⟩ := h
  replace h := zchk_some h
  obtain ⟨hqv1, h⟩ := h
  refine And.imp_right (fun kk => z_csH (A' := A0 + (C / 64 - g.2.2.2 / 64)) (B' := B0 + 2 * (C - g.2.2.2)) (rest := []) hG hPx [.ref 0, .int (a 1), .int (a 2), .ref 72] (tL_share hl0 (a 1) (a 2) g hv1) zyH_share w1415 w1414 dL_law_2857 rfl (Nat.le_of_ble_eq_true rfl) (by omega) (by omega) rfl (Nat.le_of_ble_eq_true rfl) rfl kk) ?_
  refine zpc (of_decide_eq_true hqv1) ?_
  refine And.imp_right (fun kk => z_istore (pc := 2860) (ls' := [(5, .int v1.1), (0, .ref 950), (1, .ref 0), (2, .ref 42), (3, .ref 72), (4, .int i)]) hG [0, 1, 2, 3, 4, 5] (by decide) rfl dL_law_2860 kk) ?_
  refine And.imp_right (fun kk => z_aload_n (pc := 2862) hG 3 rfl rfl dL_law_2862 kk) ?_
  refine And.imp_right (fun kk => z_aload_n (pc := 2863) hG 1 rfl rfl dL_law_2863 kk) ?_
  refine And.imp_right (fun kk => z_iload (pc := 2864) hG 5 rfl dL_law_2864 kk) ?_
  refine And.imp_right (fun kk => z_iconst (pc := 2866) hG kc_1 dL_law_2866 kk) ?_
  refine And.imp_right (fun kk => z_iadd (pc := 2867) hG dL_law_2867 kk) ?_
  refine And.imp_right (fun kk => z_scr (pc := 2868) hG hS 1 (by decide) rfl dL_law_2868 kk) ?_
  refine And.imp_right (fun kk => z_aload_n (pc := 2869) hG 1 rfl rfl dL_law_2869 kk) ?_
  refine And.imp_right (fun kk => z_iload (pc := 2870) hG 5 rfl dL_law_2870 kk) ?_
  refine And.imp_right (fun kk => z_iconst (pc := 2872) hG kc_2 dL_law_2872 kk) ?_
  refine And.imp_right (fun kk => z_iadd (pc := 2873) hG dL_law_2873 kk) ?_
  refine And.imp_right (fun kk => z_scr (pc := 2874) hG hS 2 (by decide) rfl dL_law_2874 kk) ?_
  replace h := zbind h
  obtain ⟨v2, hv2, h⟩ := h
  replace h := zchk_some h
  obtain ⟨hqv2, h⟩ := h
  refine And.imp_right (fun kk => z_cvI (A' := A0 + (C / 64 - v1.2.2.2.2 / 64)) (B' := B0 + 2 * (C - v1.2.2.2.2)) (nc := 0) (ns := 0) (rest := []) hG [.int (a 1), .int (a 2)] zc_X11 DL_42 (tX11_share hl0 (a 1) (a 2) v1.2 hv2) zy_X11_share ⟨w2036, w2037⟩ w2035 dL_law_2875 rfl (Nat.le_of_ble_eq_true rfl) (by omega) (by omega) rfl (Nat.le_of_ble_eq_true rfl) rfl kk) ?_
  refine zpc (of_decide_eq_true hqv2) ?_
  refine And.imp_right (fun kk => z_istore (pc := 2878) (ls' := [(6, .int v2.1), (5, .int v1.1), (0, .ref 950), (1, .ref 0), (2, .ref 42), (3, .ref 72), (4, .int i)]) hG [0, 1, 2, 3, 4, 5, 6] (by decide) rfl dL_law_2878 kk) ?_
  refine And.imp_right (fun kk => z_aload_n (pc := 2880) hG 4 rfl rfl dL_law_2880 kk) ?_
  replace h := zbind h
  obtain ⟨v3, hv3, h⟩ := h
  refine And.imp_right (fun kk => z_cvI (A' := A0 + (C / 64 - v2.2.2.2.2 / 64)) (B' := B0 + 2 * (C - v2.2.2.2.2)) (nc := 0) (ns := 0) (rest := []) hG [] zc_X11 DL_42 (tX11_thrown hl0  v2.2 hv3) zy_X11_thrown ⟨w1595, w1596⟩ w1594 dL_law_2881 rfl (Nat.le_of_ble_eq_true rfl) (by omega) (by omega) rfl (Nat.le_of_ble_eq_true rfl) rfl kk) ?_
  refine And.imp_right (fun kk => z_iload (pc := 2884) hG 1 rfl dL_law_2884 kk) ?_
  by_cases hc : v3 = v1.1
  rotate_left
  · replace h := zif_f hc h
    cases h
  replace h := zif_t hc h
  refine And.imp_right (fun kk => z_icmp_eq (pc := 2886) (tgt := 2891) hG dL_law_2886 rfl (fun _ => kk) (fun q => (q hc).elim)) ?_
  refine And.imp_right (fun kk => z_iload (pc := 2891) hG 1 rfl dL_law_2891 kk) ?_
  refine zbr (c := v1.1 = 0) (fun hc => ?_) (fun hc => ?_) (fun k1 k2 => z_if_ne (pc := 2893) (tgt := 2908) hG dL_law_2893 rfl k2 k1)
  · replace h := zif_t hc h
    refine And.imp_right (fun kk => z_aload_n (pc := 2896) hG 5 rfl rfl dL_law_2896 kk) ?_
    refine And.imp_right (fun kk => z_iconst (pc := 2897) hG kc_0 dL_law_2897 kk) ?_
    refine And.imp_right (fun kk => z_lald (pc := 2898) hG DL_72 (zin_in (by decide)) dL_law_2898 kk) ?_
    refine And.imp_right (fun kk => z_iload (pc := 2899) hG 0 rfl dL_law_2899 kk) ?_
    refine And.imp_right (fun kk => z_i2l (pc := 2901) hG dL_law_2901 kk) ?_
    refine And.imp_right (fun kk => z_lcmp (pc := 2902) hG dL_law_2902 kk) ?_
    by_cases hc : (lg_cmp (v2.2.2.1 72 (0 : Int32).toNatClampNeg) v2.1.toInt64) = 0
    rotate_left
    · replace h := zif_f hc h
      cases h
    replace h := zif_t hc h
    refine And.imp_right (fun kk => z_if_eq (pc := 2903) (tgt := 2908) hG dL_law_2903 rfl (fun _ => kk) (fun q => (q hc).elim)) ?_
    refine And.imp_right (fun kk => z_goto (pc := 2908) (tgt := 3017) hG dL_law_2908 rfl kk) ?_
    obtain rfl := Option.some.inj h
    refine And.imp_right (fun kk => z_sub (ls' := [(0, .ref 950), (1, .ref 0), (2, .ref 42), (3, .ref 72), (4, .int i)]) [2, 3, 4, 5, 6] rfl kk) ?_
    exact kf
  · replace h := zif_f hc h
    refine And.imp_right (fun kk => z_goto (pc := 2908) (tgt := 3017) hG dL_law_2908 rfl kk) ?_
    obtain rfl := Option.some.inj h
    refine And.imp_right (fun kk => z_sub (ls' := [(0, .ref 950), (1, .ref 0), (2, .ref 42), (3, .ref 72), (4, .int i)]) [2, 3, 4, 5, 6] rfl kk) ?_
    exact kf
noncomputable def nS_46 (a : Nat → Int32) (g : zS) : Option zS :=
  (nL_write (a 1) g).bind fun v1 => zchk (decide (v1.2.2.2.2 = g.2.2.2)) ((nX11_write (a 1) v1.2).bind fun v2 => zchk (decide (v2.2.2.2.2 = v1.2.2.2.2)) ((nX11_thrown v2.2).bind fun v3 => if v3 = v1.1 then (if v1.1 = 0 then (if (lg_cmp (v2.2.2.1 72 (0 : Int32).toNatClampNeg) v2.1.toInt64) = 0 then (some v2.2) else (none)) else (some v2.2)) else (none)))
set_option maxHeartbeats 1000000 in
theorem tS_46 {x : zXx} {i : Int32} {a : Nat → Int32} (hl0 : (zl0 x).flags = flags0) (hG : zG x cL_law 7 RL ret) (hPx : zPx x.2.2.2.2.1) (hS : zScr x i a) {A0 B0 C : Nat} (g : zS) {r : zS} (h : nS_46 a g = some r) (kf : zgr r C ∧ zK x 66 3017 [(0, .ref 950), (1, .ref 0), (2, .ref 42), (3, .ref 72), (4, .int i)] [] zD r (A0 + (C / 64 - r.2.2.2 / 64)) (B0 + 2 * (C - r.2.2.2))) : zgr g C ∧ zK x 66 2911 [(0, .ref 950), (1, .ref 0), (2, .ref 42), (3, .ref 72), (4, .int i)] [] zD g (A0 + 1 + (C / 64 - g.2.2.2 / 64)) (B0 + 6 + 2 * (C - g.2.2.2)) := by
  unfold nS_46 at h
  refine And.imp_right (fun kk => z_aload_n (pc := 2911) hG 1 rfl rfl dL_law_2911 kk) ?_
  refine And.imp_right (fun kk => z_aload_n (pc := 2912) hG 0 rfl rfl dL_law_2912 kk) ?_
  refine And.imp_right (fun kk => z_iload (pc := 2913) hG 4 rfl dL_law_2913 kk) ?_
  refine And.imp_right (fun kk => z_iconst (pc := 2915) hG kc_1 dL_law_2915 kk) ?_
  refine And.imp_right (fun kk => z_iadd (pc := 2916) hG dL_law_2916 kk) ?_
  refine And.imp_right (fun kk => z_scr (pc := 2917) hG hS 1 (by decide) rfl dL_law_2917 kk) ?_
  refine And.imp_right (fun kk => z_aload_n (pc := 2918) hG 3 rfl rfl dL_law_2918 kk) ?_
  replace h := zbind h
  obtain ⟨v1, hv1, h⟩ := h
  replace h := zchk_some h
  obtain ⟨hqv1, h⟩ := h
  refine And.imp_right (fun kk => z_csH (A' := A0 + (C / 64 - g.2.2.2 / 64)) (B' := B0 + 2 * (C - g.2.2.2)) (rest := []) hG hPx [.ref 0, .int (a 1), .ref 72] (tL_write hl0 (a 1) g hv1) zyH_write w1423 w1422 dL_law_2919 rfl (Nat.le_of_ble_eq_true rfl) (by omega) (by omega) rfl (Nat.le_of_ble_eq_true rfl) rfl kk) ?_
  refine zpc (of_decide_eq_true hqv1) ?_
  refine And.imp_right (fun kk => z_istore (pc := 2922) (ls' := [(5, .int v1.1), (0, .ref 950), (1, .ref 0), (2, .ref 42), (3, .ref 72), (4, .int i)]) hG [0, 1, 2, 3, 4, 5] (by decide) rfl dL_law_2922 kk) ?_
  refine And.imp_right (fun kk => z_aload_n (pc := 2924) hG 3 rfl rfl dL_law_2924 kk) ?_
  refine And.imp_right (fun kk => z_aload_n (pc := 2925) hG 1 rfl rfl dL_law_2925 kk) ?_
  refine And.imp_right (fun kk => z_iload (pc := 2926) hG 5 rfl dL_law_2926 kk) ?_
  refine And.imp_right (fun kk => z_iconst (pc := 2928) hG kc_1 dL_law_2928 kk) ?_
  refine And.imp_right (fun kk => z_iadd (pc := 2929) hG dL_law_2929 kk) ?_
  refine And.imp_right (fun kk => z_scr (pc := 2930) hG hS 1 (by decide) rfl dL_law_2930 kk) ?_
  replace h := zbind h
  obtain ⟨v2, hv2, h⟩ := h
  replace h := zchk_some h
  obtain ⟨hqv2, h⟩ := h
  refine And.imp_right (fun kk => z_cvI (A' := A0 + (C / 64 - v1.2.2.2.2 / 64)) (B' := B0 + 2 * (C - v1.2.2.2.2)) (nc := 0) (ns := 0) (rest := []) hG [.int (a 1)] zc_X11 DL_42 (tX11_write hl0 (a 1) v1.2 hv2) zy_X11_write ⟨w2040, w2041⟩ w2039 dL_law_2931 rfl (Nat.le_of_ble_eq_true rfl) (by omega) (by omega) rfl (Nat.le_of_ble_eq_true rfl) rfl kk) ?_
  refine zpc (of_decide_eq_true hqv2) ?_
  refine And.imp_right (fun kk => z_istore (pc := 2934) (ls' := [(6, .int v2.1), (5, .int v1.1), (0, .ref 950), (1, .ref 0), (2, .ref 42), (3, .ref 72), (4, .int i)]) hG [0, 1, 2, 3, 4, 5, 6] (by decide) rfl dL_law_2934 kk) ?_
  refine And.imp_right (fun kk => z_aload_n (pc := 2936) hG 4 rfl rfl dL_law_2936 kk) ?_
  replace h := zbind h
  obtain ⟨v3, hv3, h⟩ := h
  refine And.imp_right (fun kk => z_cvI (A' := A0 + (C / 64 - v2.2.2.2.2 / 64)) (B' := B0 + 2 * (C - v2.2.2.2.2)) (nc := 0) (ns := 0) (rest := []) hG [] zc_X11 DL_42 (tX11_thrown hl0  v2.2 hv3) zy_X11_thrown ⟨w1595, w1596⟩ w1594 dL_law_2937 rfl (Nat.le_of_ble_eq_true rfl) (by omega) (by omega) rfl (Nat.le_of_ble_eq_true rfl) rfl kk) ?_
  refine And.imp_right (fun kk => z_iload (pc := 2940) hG 1 rfl dL_law_2940 kk) ?_
  by_cases hc : v3 = v1.1
  rotate_left
  · replace h := zif_f hc h
    cases h
  replace h := zif_t hc h
  refine And.imp_right (fun kk => z_icmp_eq (pc := 2942) (tgt := 2947) hG dL_law_2942 rfl (fun _ => kk) (fun q => (q hc).elim)) ?_
  refine And.imp_right (fun kk => z_iload (pc := 2947) hG 1 rfl dL_law_2947 kk) ?_
  refine zbr (c := v1.1 = 0) (fun hc => ?_) (fun hc => ?_) (fun k1 k2 => z_if_ne (pc := 2949) (tgt := 2964) hG dL_law_2949 rfl k2 k1)
  · replace h := zif_t hc h
    refine And.imp_right (fun kk => z_aload_n (pc := 2952) hG 5 rfl rfl dL_law_2952 kk) ?_
    refine And.imp_right (fun kk => z_iconst (pc := 2953) hG kc_0 dL_law_2953 kk) ?_
    refine And.imp_right (fun kk => z_lald (pc := 2954) hG DL_72 (zin_in (by decide)) dL_law_2954 kk) ?_
    refine And.imp_right (fun kk => z_iload (pc := 2955) hG 0 rfl dL_law_2955 kk) ?_
    refine And.imp_right (fun kk => z_i2l (pc := 2957) hG dL_law_2957 kk) ?_
    refine And.imp_right (fun kk => z_lcmp (pc := 2958) hG dL_law_2958 kk) ?_
    by_cases hc : (lg_cmp (v2.2.2.1 72 (0 : Int32).toNatClampNeg) v2.1.toInt64) = 0
    rotate_left
    · replace h := zif_f hc h
      cases h
    replace h := zif_t hc h
    refine And.imp_right (fun kk => z_if_eq (pc := 2959) (tgt := 2964) hG dL_law_2959 rfl (fun _ => kk) (fun q => (q hc).elim)) ?_
    refine And.imp_right (fun kk => z_goto (pc := 2964) (tgt := 3017) hG dL_law_2964 rfl kk) ?_
    obtain rfl := Option.some.inj h
    refine And.imp_right (fun kk => z_sub (ls' := [(0, .ref 950), (1, .ref 0), (2, .ref 42), (3, .ref 72), (4, .int i)]) [2, 3, 4, 5, 6] rfl kk) ?_
    exact kf
  · replace h := zif_f hc h
    refine And.imp_right (fun kk => z_goto (pc := 2964) (tgt := 3017) hG dL_law_2964 rfl kk) ?_
    obtain rfl := Option.some.inj h
    refine And.imp_right (fun kk => z_sub (ls' := [(0, .ref 950), (1, .ref 0), (2, .ref 42), (3, .ref 72), (4, .int i)]) [2, 3, 4, 5, 6] rfl kk) ?_
    exact kf
noncomputable def nS_47 (a : Nat → Int32) (g : zS) : Option zS :=
  (nX10_octet (a 1) g).bind fun v1 => (nX11_octet (a 1) g).bind fun v2 => zchk (decide (v2.2.2.2.2 = g.2.2.2)) (if v1 = v2.1 then (some v2.2) else (none))
set_option maxHeartbeats 1000000 in
theorem tS_47 {x : zXx} {i : Int32} {a : Nat → Int32} (hl0 : (zl0 x).flags = flags0) (hG : zG x cL_law 7 RL ret) (hPx : zPx x.2.2.2.2.1) (hS : zScr x i a) {A0 B0 C : Nat} (g : zS) {r : zS} (h : nS_47 a g = some r) (kf : zgr r C ∧ zK x 66 3017 [(0, .ref 950), (1, .ref 0), (2, .ref 42), (3, .ref 72), (4, .int i)] [] zD r (A0 + (C / 64 - r.2.2.2 / 64)) (B0 + 2 * (C - r.2.2.2))) : zgr g C ∧ zK x 66 2967 [(0, .ref 950), (1, .ref 0), (2, .ref 42), (3, .ref 72), (4, .int i)] [] zD g (A0 + 0 + (C / 64 - g.2.2.2 / 64)) (B0 + 0 + 2 * (C - g.2.2.2)) := by
  unfold nS_47 at h
  refine And.imp_right (fun kk => z_aload_n (pc := 2967) hG 1 rfl rfl dL_law_2967 kk) ?_
  refine And.imp_right (fun kk => z_aload_n (pc := 2968) hG 0 rfl rfl dL_law_2968 kk) ?_
  refine And.imp_right (fun kk => z_iload (pc := 2969) hG 4 rfl dL_law_2969 kk) ?_
  refine And.imp_right (fun kk => z_iconst (pc := 2971) hG kc_1 dL_law_2971 kk) ?_
  refine And.imp_right (fun kk => z_iadd (pc := 2972) hG dL_law_2972 kk) ?_
  refine And.imp_right (fun kk => z_scr (pc := 2973) hG hS 1 (by decide) rfl dL_law_2973 kk) ?_
  replace h := zbind h
  obtain ⟨v1, hv1, h⟩ := h
  refine And.imp_right (fun kk => z_cvI (A' := A0 + (C / 64 - g.2.2.2 / 64)) (B' := B0 + 2 * (C - g.2.2.2)) (nc := 0) (ns := 0) (rest := []) hG [.int (a 1)] zc_X10 DL_0 (tX10_octet hl0 (a 1) g hv1) zy_X10_octet ⟨w527, w528⟩ w526 dL_law_2974 rfl (Nat.le_of_ble_eq_true rfl) (by omega) (by omega) rfl (Nat.le_of_ble_eq_true rfl) rfl kk) ?_
  refine And.imp_right (fun kk => z_aload_n (pc := 2977) hG 2 rfl rfl dL_law_2977 kk) ?_
  refine And.imp_right (fun kk => z_aload_n (pc := 2978) hG 0 rfl rfl dL_law_2978 kk) ?_
  refine And.imp_right (fun kk => z_iload (pc := 2979) hG 4 rfl dL_law_2979 kk) ?_
  refine And.imp_right (fun kk => z_iconst (pc := 2981) hG kc_1 dL_law_2981 kk) ?_
  refine And.imp_right (fun kk => z_iadd (pc := 2982) hG dL_law_2982 kk) ?_
  refine And.imp_right (fun kk => z_scr (pc := 2983) hG hS 1 (by decide) rfl dL_law_2983 kk) ?_
  replace h := zbind h
  obtain ⟨v2, hv2, h⟩ := h
  replace h := zchk_some h
  obtain ⟨hqv2, h⟩ := h
  refine And.imp_right (fun kk => z_cvI (A' := A0 + (C / 64 - g.2.2.2 / 64)) (B' := B0 + 2 * (C - g.2.2.2)) (nc := 0) (ns := 0) (rest := [.int v1]) hG [.int (a 1)] zc_X11 DL_42 (tX11_octet hl0 (a 1) g hv2) zy_X11_octet ⟨w2044, w2045⟩ w2043 dL_law_2984 rfl (Nat.le_of_ble_eq_true rfl) (by omega) (by omega) rfl (Nat.le_of_ble_eq_true rfl) rfl kk) ?_
  refine zpc (of_decide_eq_true hqv2) ?_
  by_cases hc : v1 = v2.1
  rotate_left
  · replace h := zif_f hc h
    cases h
  replace h := zif_t hc h
  refine And.imp_right (fun kk => z_icmp_eq (pc := 2987) (tgt := 3017) hG dL_law_2987 rfl (fun _ => kk) (fun q => (q hc).elim)) ?_
  obtain rfl := Option.some.inj h
  exact kf
noncomputable def nS_48 (a : Nat → Int32) (g : zS) : Option zS :=
  (nX10_count (a 1) g).bind fun v1 => (nX11_count (a 1) g).bind fun v2 => zchk (decide (v2.2.2.2.2 = g.2.2.2)) (if v1 = v2.1 then (some v2.2) else (none))
set_option maxHeartbeats 1000000 in
theorem tS_48 {x : zXx} {i : Int32} {a : Nat → Int32} (hl0 : (zl0 x).flags = flags0) (hG : zG x cL_law 7 RL ret) (hPx : zPx x.2.2.2.2.1) (hS : zScr x i a) {A0 B0 C : Nat} (g : zS) {r : zS} (h : nS_48 a g = some r) (kf : zgr r C ∧ zK x 66 3017 [(0, .ref 950), (1, .ref 0), (2, .ref 42), (3, .ref 72), (4, .int i)] [] zD r (A0 + (C / 64 - r.2.2.2 / 64)) (B0 + 2 * (C - r.2.2.2))) : zgr g C ∧ zK x 66 2992 [(0, .ref 950), (1, .ref 0), (2, .ref 42), (3, .ref 72), (4, .int i)] [] zD g (A0 + 0 + (C / 64 - g.2.2.2 / 64)) (B0 + 0 + 2 * (C - g.2.2.2)) := by
  unfold nS_48 at h
  refine And.imp_right (fun kk => z_aload_n (pc := 2992) hG 1 rfl rfl dL_law_2992 kk) ?_
  refine And.imp_right (fun kk => z_aload_n (pc := 2993) hG 0 rfl rfl dL_law_2993 kk) ?_
  refine And.imp_right (fun kk => z_iload (pc := 2994) hG 4 rfl dL_law_2994 kk) ?_
  refine And.imp_right (fun kk => z_iconst (pc := 2996) hG kc_1 dL_law_2996 kk) ?_
  refine And.imp_right (fun kk => z_iadd (pc := 2997) hG dL_law_2997 kk) ?_
  refine And.imp_right (fun kk => z_scr (pc := 2998) hG hS 1 (by decide) rfl dL_law_2998 kk) ?_
  replace h := zbind h
  obtain ⟨v1, hv1, h⟩ := h
  refine And.imp_right (fun kk => z_cvI (A' := A0 + (C / 64 - g.2.2.2 / 64)) (B' := B0 + 2 * (C - g.2.2.2)) (nc := 0) (ns := 0) (rest := []) hG [.int (a 1)] zc_X10 DL_0 (tX10_count hl0 (a 1) g hv1) zy_X10_count ⟨w531, w532⟩ w530 dL_law_2999 rfl (Nat.le_of_ble_eq_true rfl) (by omega) (by omega) rfl (Nat.le_of_ble_eq_true rfl) rfl kk) ?_
  refine And.imp_right (fun kk => z_aload_n (pc := 3002) hG 2 rfl rfl dL_law_3002 kk) ?_
  refine And.imp_right (fun kk => z_aload_n (pc := 3003) hG 0 rfl rfl dL_law_3003 kk) ?_
  refine And.imp_right (fun kk => z_iload (pc := 3004) hG 4 rfl dL_law_3004 kk) ?_
  refine And.imp_right (fun kk => z_iconst (pc := 3006) hG kc_1 dL_law_3006 kk) ?_
  refine And.imp_right (fun kk => z_iadd (pc := 3007) hG dL_law_3007 kk) ?_
  refine And.imp_right (fun kk => z_scr (pc := 3008) hG hS 1 (by decide) rfl dL_law_3008 kk) ?_
  replace h := zbind h
  obtain ⟨v2, hv2, h⟩ := h
  replace h := zchk_some h
  obtain ⟨hqv2, h⟩ := h
  refine And.imp_right (fun kk => z_cvI (A' := A0 + (C / 64 - g.2.2.2 / 64)) (B' := B0 + 2 * (C - g.2.2.2)) (nc := 0) (ns := 0) (rest := [.int v1]) hG [.int (a 1)] zc_X11 DL_42 (tX11_count hl0 (a 1) g hv2) zy_X11_count ⟨w2048, w2049⟩ w2047 dL_law_3009 rfl (Nat.le_of_ble_eq_true rfl) (by omega) (by omega) rfl (Nat.le_of_ble_eq_true rfl) rfl kk) ?_
  refine zpc (of_decide_eq_true hqv2) ?_
  by_cases hc : v1 = v2.1
  rotate_left
  · replace h := zif_f hc h
    cases h
  replace h := zif_t hc h
  refine And.imp_right (fun kk => z_icmp_eq (pc := 3012) (tgt := 3017) hG dL_law_3012 rfl (fun _ => kk) (fun q => (q hc).elim)) ?_
  obtain rfl := Option.some.inj h
  exact kf
