/-! THE LAW'S CASES: each call of the script, on the class and on the model, and what is compared -/
theorem cmp_0 (x : Int64) : lg_cmp x x = 0 := (lg_cmp_eq x x).mpr rfl
section CASES
variable {p : Program} {l : Launch} {e : Env} {s : State} {m : MethodId} {args : Array Value} {below : List Frame} {meth : Method} {c : Code} {H : Heap} {locs : List Loc} {cells slots : Nat} {Q : State → Prop}
variable {ls : Array Slot} {G : Gt} {μ μ1 μ2 : Mm} {sb L : Nat} {xs : Nat → Int32} {i : Int32}
set_option maxHeartbeats 4000000 in
set_option maxRecDepth 100000 in
theorem t_append {code9 v : Int32} (h13 : G.2.2.2 13 = 1) (F : FX (fg G) s.heap.size RL cL_law 7 p s m args meth c) (hW : WH (fg G) s.heap.size μ1 H) (hS : va_S (fb s.heap.size) s.heap H locs) (hl : lv_has ls 7 [(0, .ref sb), (1, .ref (s.heap.size + 0)), (2, .ref (s.heap.size + 306)), (3, .ref (s.heap.size + 331)), (4, .int i)]) (hX : va_X sb L xs s s.heap) (hsb : sb < s.heap.size) (hin : ∀ t : Int32, t ∈ [(1 : Int32), 2, 3, 4, 5] → vp_in (i + t) L) (hc1 : cells + 4 ≤ room_1.cells) (hc2 : slots + 24 ≤ room_1.slots)
    (hd : sh_X12_append 120000 (xs (i + 1).toNatClampNeg) (xs (i + 2).toNatClampNeg) (xs (i + 3).toNatClampNeg) (xs (i + 4).toNatClampNeg) (xs (i + 5).toNatClampNeg) μ1 = some (v, μ2)) (hIV : IV μ2) (hth : μ2.1 306 0 = code9) (hval : code9 = 0 → Int64.ofNat (G.2.2.2 14) = v.toInt64) (kk : lwK p l e s m args below meth c sb i cells slots Q) : W p l e room_1 s m args below meth c H locs (cells + 4) (slots + 24) Q (F0 m 299 ls [.int code9]) := by
  have hx := F.1
  have hb := F.2.1
  refine lv_istore (lv' := [(5, .int code9), (0, .ref sb), (1, .ref (s.heap.size + 0)), (2, .ref (s.heap.size + 306)), (3, .ref (s.heap.size + 331)), (4, .int i)]) hx hb dL_law_299 hl (by decide) rfl (fun ls hl => ?_)
  refine lv_aload_n hx hb dL_law_301 rfl (lv_at hl 3 rfl) ?_
  refine l_arg (k0 := 1) (k4 := 5) (t := 1) hx hb hX hsb hS hl rfl rfl (hin 1 (by decide)) dL_law_302 dL_law_303 dL_law_305 (by decide) dL_law_306 dL_law_307 ?_
  refine l_arg (k0 := 1) (k4 := 5) (t := 2) hx hb hX hsb hS hl rfl rfl (hin 2 (by decide)) dL_law_308 dL_law_309 dL_law_311 (by decide) dL_law_312 dL_law_313 ?_
  refine l_arg (k0 := 1) (k4 := 5) (t := 3) hx hb hX hsb hS hl rfl rfl (hin 3 (by decide)) dL_law_314 dL_law_315 dL_law_317 (by decide) dL_law_318 dL_law_319 ?_
  refine l_arg (k0 := 1) (k4 := 5) (t := 4) hx hb hX hsb hS hl rfl rfl (hin 4 (by decide)) dL_law_320 dL_law_321 dL_law_323 (by decide) dL_law_324 dL_law_325 ?_
  refine l_arg (k0 := 1) (k4 := 5) (t := 5) hx hb hX hsb hS hl rfl rfl (hin 5 (by decide)) dL_law_326 dL_law_327 dL_law_329 (by decide) dL_law_330 dL_law_331 ?_
  refine k_X12_append F hd q_1623 ⟨Nat.le_of_ble_eq_true rfl, Nat.le_of_ble_eq_true rfl, by omega, by omega⟩ hW hS hl.1 (Nat.le_of_ble_eq_true rfl) dL_law_332 (fun H locs hW hS => ?_)
  refine lv_istore (lv' := [(6, .int v), (5, .int code9), (0, .ref sb), (1, .ref (s.heap.size + 0)), (2, .ref (s.heap.size + 306)), (3, .ref (s.heap.size + 331)), (4, .int i)]) hx hb dL_law_335 hl (by decide) rfl (fun ls hl => ?_)
  refine lv_aload_n hx hb dL_law_337 rfl (lv_at hl 4 rfl) ?_
  refine k_X12_thrown F (show sh_X12_thrown μ2 = some code9 from congrArg some hth) q_1457 ⟨Nat.le_of_ble_eq_true rfl, Nat.le_of_ble_eq_true rfl, by omega, by omega⟩ hW hS hl.1 (Nat.le_of_ble_eq_true rfl) dL_law_338 (fun H locs hW hS => ?_)
  refine lv_iload hx hb dL_law_341 (lv_at hl 1 rfl) ?_
  refine lv_icmp_eq (tgt := 348) hx hb dL_law_343 (by decide) (fun _ => ?_) (fun q => absurd rfl q)
  refine lv_iload hx hb dL_law_348 (lv_at hl 1 rfl) ?_
  refine lv_if_ne (tgt := 365) hx hb dL_law_350 (by decide) (fun _ => lv_goto (tgt := 2642) hx hb dL_law_365 (by decide) (kk G μ2 H locs ls h13 F hIV hW hS (lv_sub hl [2, 3, 4, 5, 6] rfl))) (fun h0 => ?_)
  refine lv_aload_n hx hb dL_law_353 rfl (lv_at hl 5 rfl) ?_
  refine lv_iconst (v := (0 : Int32)) hx hb dL_law_354 (by decide) ?_
  refine l_out h13 F hW dL_law_355 ?_
  rw [hval h0]
  refine lv_iload hx hb dL_law_356 (lv_at hl 0 rfl) ?_
  refine lv_i2l hx hb dL_law_358 rfl ?_
  refine W.lcmp hx hb dL_law_359 ?_
  rw [cmp_0]
  exact lv_if_eq (tgt := 365) hx hb dL_law_360 (by decide) (fun _ => lv_goto (tgt := 2642) hx hb dL_law_365 (by decide) (kk G μ2 H locs ls h13 F hIV hW hS (lv_sub hl [2, 3, 4, 5, 6] rfl))) (fun q => absurd rfl q)
set_option maxHeartbeats 4000000 in
set_option maxRecDepth 100000 in
theorem s_append (hlT : l.stackTraces = false) (hB : lwB p s m args meth c sb L xs i cells slots G μ H locs ls) (kk : lwK p l e s m args below meth c sb i cells slots Q) : W p l e room_1 s m args below meth c H locs cells slots Q (F0 m 264 ls []) := by
  obtain ⟨h13, F, hIV, hW, hS, hl, hX, hsb, hin, hc1, hc2⟩ := hB
  have hx := F.1
  have hb := F.2.1
  replace hl : lv_has ls 7 [(0, .ref sb), (1, .ref (s.heap.size + 0)), (2, .ref (s.heap.size + 306)), (3, .ref (s.heap.size + 331)), (4, .int i)] := hl
  obtain ⟨x, μ1, v, μ2, hc, hd, hag, hIV2⟩ := i_append (n := 120000) (Nat.le_refl _) hIV (xs (i + 1).toNatClampNeg) (xs (i + 2).toNatClampNeg) (xs (i + 3).toNatClampNeg) (xs (i + 4).toNatClampNeg) (xs (i + 5).toNatClampNeg)
  refine lv_aload_n hx hb dL_law_264 rfl (lv_at hl 1 rfl) ?_
  refine l_arg (k0 := 0) (k4 := 4) (t := 1) hx hb hX hsb hS hl rfl rfl (hin 1 (by decide)) dL_law_265 dL_law_266 dL_law_268 (by decide) dL_law_269 dL_law_270 ?_
  refine l_arg (k0 := 0) (k4 := 4) (t := 2) hx hb hX hsb hS hl rfl rfl (hin 2 (by decide)) dL_law_271 dL_law_272 dL_law_274 (by decide) dL_law_275 dL_law_276 ?_
  refine l_arg (k0 := 0) (k4 := 4) (t := 3) hx hb hX hsb hS hl rfl rfl (hin 3 (by decide)) dL_law_277 dL_law_278 dL_law_280 (by decide) dL_law_281 dL_law_282 ?_
  refine l_arg (k0 := 0) (k4 := 4) (t := 4) hx hb hX hsb hS hl rfl rfl (hin 4 (by decide)) dL_law_283 dL_law_284 dL_law_286 (by decide) dL_law_287 dL_law_288 ?_
  refine l_arg (k0 := 0) (k4 := 4) (t := 5) hx hb hX hsb hS hl rfl rfl (hin 5 (by decide)) dL_law_289 dL_law_290 dL_law_292 (by decide) dL_law_293 dL_law_294 ?_
  refine lv_aload_n hx hb dL_law_295 rfl (lv_at hl 3 rfl) ?_
  cases x with
  | inl e9 =>
    obtain ⟨j, hj, hth⟩ := hag
    match j, hj, hth with
    | 0, hj, hth =>
      have e8 : e9 = 0 := (Option.some.inj (show some 0 = some e9 from hj)).symm
      subst e8
      exact l_call (c_L_append_x0 hlT h13 hc) ⟨rfl, rfl⟩ q_977 q_0 q_978 ⟨by decide +kernel, by decide +kernel, (show (parseMethodDescriptor yL_append.desc).map (fun d => d.parameters.length) = some 7 by decide +kernel)⟩ F q_976 ⟨Nat.le_of_ble_eq_true rfl, Nat.le_of_ble_eq_true rfl, by omega, by omega⟩ hW hS hl.1 (Nat.le_of_ble_eq_true rfl) rfl dL_law_296 (fun n H locs hn hW hS => W.widen (by omega) (by omega) (t_append (gs_13.trans h13) (FX_gs F) hW hS hl hX hsb hin hc1 hc2 hd hIV2 (hth.trans (show jv (((0 : Nat) : Int) + 1) = 1 by decide)) (fun q => absurd q (by decide)) kk))
    | j + 1, hj, _ => exact absurd (show (none : Option Nat) = some e9 from hj) (fun q => nomatch q)
  | inr r =>
    obtain ⟨hth, hv⟩ := hag
    subst hv
    exact l_call (c_L_append_ok hlT h13 hc) ⟨rfl, rfl⟩ q_977 q_0 q_978 ⟨by decide +kernel, by decide +kernel, (show (parseMethodDescriptor yL_append.desc).map (fun d => d.parameters.length) = some 7 by decide +kernel)⟩ F q_976 ⟨Nat.le_of_ble_eq_true rfl, Nat.le_of_ble_eq_true rfl, by omega, by omega⟩ hW hS hl.1 (Nat.le_of_ble_eq_true rfl) rfl dL_law_296 (fun n H locs hn hW hS => W.widen (by omega) (by omega) (t_append (gs_13.trans h13) (FX_gs F) hW hS hl hX hsb hin hc1 hc2 hd hIV2 (hth.trans (show jv 0 = 0 by decide)) (fun _ => hn _ rfl) kk))
set_option maxHeartbeats 4000000 in
set_option maxRecDepth 100000 in
theorem t_truncate {code9 : Int32} (h13 : G.2.2.2 13 = 1) (F : FX (fg G) s.heap.size RL cL_law 7 p s m args meth c) (hW : WH (fg G) s.heap.size μ1 H) (hS : va_S (fb s.heap.size) s.heap H locs) (hl : lv_has ls 7 [(0, .ref sb), (1, .ref (s.heap.size + 0)), (2, .ref (s.heap.size + 306)), (3, .ref (s.heap.size + 331)), (4, .int i)]) (hX : va_X sb L xs s s.heap) (hsb : sb < s.heap.size) (hin : ∀ t : Int32, t ∈ [(1 : Int32), 2, 3, 4, 5] → vp_in (i + t) L) (hc1 : cells + 4 ≤ room_1.cells) (hc2 : slots + 24 ≤ room_1.slots)
    (hd : sh_X12_truncate (xs (i + 1).toNatClampNeg) μ1 = some μ2) (hIV : IV μ2) (hth : μ2.1 306 0 = code9) (kk : lwK p l e s m args below meth c sb i cells slots Q) : W p l e room_1 s m args below meth c H locs (cells + 4) (slots + 24) Q (F0 m 378 ls [.int code9]) := by
  have hx := F.1
  have hb := F.2.1
  refine lv_istore (lv' := [(5, .int code9), (0, .ref sb), (1, .ref (s.heap.size + 0)), (2, .ref (s.heap.size + 306)), (3, .ref (s.heap.size + 331)), (4, .int i)]) hx hb dL_law_378 hl (by decide) rfl (fun ls hl => ?_)
  refine lv_aload_n hx hb dL_law_380 rfl (lv_at hl 3 rfl) ?_
  refine l_arg (k0 := 1) (k4 := 5) (t := 1) hx hb hX hsb hS hl rfl rfl (hin 1 (by decide)) dL_law_381 dL_law_382 dL_law_384 (by decide) dL_law_385 dL_law_386 ?_
  refine k_X12_truncate F hd q_1639 ⟨Nat.le_of_ble_eq_true rfl, Nat.le_of_ble_eq_true rfl, by omega, by omega⟩ hW hS hl.1 (Nat.le_of_ble_eq_true rfl) dL_law_387 (fun H locs hW hS => ?_)
  refine lv_aload_n hx hb dL_law_390 rfl (lv_at hl 3 rfl) ?_
  refine k_X12_thrown F (show sh_X12_thrown μ2 = some code9 from congrArg some hth) q_1457 ⟨Nat.le_of_ble_eq_true rfl, Nat.le_of_ble_eq_true rfl, by omega, by omega⟩ hW hS hl.1 (Nat.le_of_ble_eq_true rfl) dL_law_391 (fun H locs hW hS => ?_)
  refine lv_iload hx hb dL_law_394 (lv_at hl 0 rfl) ?_
  refine lv_icmp_eq (tgt := 401) hx hb dL_law_396 (by decide) (fun _ => ?_) (fun q => absurd rfl q)
  exact lv_goto (tgt := 2642) hx hb dL_law_401 (by decide) (kk G μ2 H locs ls h13 F hIV hW hS (lv_sub hl [1, 2, 3, 4, 5] rfl))
set_option maxHeartbeats 4000000 in
set_option maxRecDepth 100000 in
theorem s_truncate (hlT : l.stackTraces = false) (hB : lwB p s m args meth c sb L xs i cells slots G μ H locs ls) (kk : lwK p l e s m args below meth c sb i cells slots Q) : W p l e room_1 s m args below meth c H locs cells slots Q (F0 m 368 ls []) := by
  obtain ⟨h13, F, hIV, hW, hS, hl, hX, hsb, hin, hc1, hc2⟩ := hB
  have hx := F.1
  have hb := F.2.1
  replace hl : lv_has ls 7 [(0, .ref sb), (1, .ref (s.heap.size + 0)), (2, .ref (s.heap.size + 306)), (3, .ref (s.heap.size + 331)), (4, .int i)] := hl
  obtain ⟨x, μ1, μ2, hc, hd, hag, hIV2⟩ := i_truncate hIV (xs (i + 1).toNatClampNeg)
  refine lv_aload_n hx hb dL_law_368 rfl (lv_at hl 1 rfl) ?_
  refine l_arg (k0 := 0) (k4 := 4) (t := 1) hx hb hX hsb hS hl rfl rfl (hin 1 (by decide)) dL_law_369 dL_law_370 dL_law_372 (by decide) dL_law_373 dL_law_374 ?_
  cases x with
  | inl e9 =>
    obtain ⟨j, hj, hth⟩ := hag
    match j, hj, hth with
    | 0, hj, hth =>
      have e8 : e9 = 1 := (Option.some.inj (show some 1 = some e9 from hj)).symm
      subst e8
      exact l_call (c_L_truncate_x1 hlT h13 hc) ⟨rfl, rfl⟩ q_1057 q_0 q_1058 ⟨by decide +kernel, by decide +kernel, (show (parseMethodDescriptor yL_truncate.desc).map (fun d => d.parameters.length) = some 2 by decide +kernel)⟩ F q_1056 ⟨Nat.le_of_ble_eq_true rfl, Nat.le_of_ble_eq_true rfl, by omega, by omega⟩ hW hS hl.1 (Nat.le_of_ble_eq_true rfl) rfl dL_law_375 (fun n H locs hn hW hS => W.widen (by omega) (by omega) (t_truncate (gs_13.trans h13) (FX_gs F) hW hS hl hX hsb hin hc1 hc2 hd hIV2 (hth.trans (show jv (((0 : Nat) : Int) + 1) = 1 by decide)) kk))
    | j + 1, hj, _ => exact absurd (show (none : Option Nat) = some e9 from hj) (fun q => nomatch q)
  | inr r =>
    obtain ⟨hth, hv⟩ := hag
    exact l_call (c_L_truncate_ok hlT h13 hc) ⟨rfl, rfl⟩ q_1057 q_0 q_1058 ⟨by decide +kernel, by decide +kernel, (show (parseMethodDescriptor yL_truncate.desc).map (fun d => d.parameters.length) = some 2 by decide +kernel)⟩ F q_1056 ⟨Nat.le_of_ble_eq_true rfl, Nat.le_of_ble_eq_true rfl, by omega, by omega⟩ hW hS hl.1 (Nat.le_of_ble_eq_true rfl) rfl dL_law_375 (fun n H locs hn hW hS => W.widen (by omega) (by omega) (t_truncate (gs_13.trans h13) (FX_gs F) hW hS hl hX hsb hin hc1 hc2 hd hIV2 (hth.trans (show jv 0 = 0 by decide)) kk))
set_option maxHeartbeats 4000000 in
set_option maxRecDepth 100000 in
theorem s_load (hlT : l.stackTraces = false) (hB : lwB p s m args meth c sb L xs i cells slots G μ H locs ls) (kk : lwK p l e s m args below meth c sb i cells slots Q) : W p l e room_1 s m args below meth c H locs cells slots Q (F0 m 404 ls []) := by
  obtain ⟨h13, F, hIV, hW, hS, hl, hX, hsb, hin, hc1, hc2⟩ := hB
  have hx := F.1
  have hb := F.2.1
  replace hl : lv_has ls 7 [(0, .ref sb), (1, .ref (s.heap.size + 0)), (2, .ref (s.heap.size + 306)), (3, .ref (s.heap.size + 331)), (4, .int i)] := hl
  obtain ⟨v, μ1, μ2, hc, hd, hIV2⟩ := i_load (n := 120000) (Nat.le_refl _) hIV
  refine lv_aload_n hx hb dL_law_404 rfl (lv_at hl 1 rfl) ?_
  refine k_X11_load F hc q_578 ⟨Nat.le_of_ble_eq_true rfl, Nat.le_of_ble_eq_true rfl, by omega, by omega⟩ hW hS hl.1 (Nat.le_of_ble_eq_true rfl) dL_law_405 (fun H locs hW hS => ?_)
  refine lv_aload_n hx hb dL_law_408 rfl (lv_at hl 2 rfl) ?_
  refine k_X12_load F hd q_1646 ⟨Nat.le_of_ble_eq_true rfl, Nat.le_of_ble_eq_true rfl, by omega, by omega⟩ hW hS hl.1 (Nat.le_of_ble_eq_true rfl) dL_law_409 (fun H locs hW hS => ?_)
  exact lv_icmp_eq (tgt := 2642) hx hb dL_law_412 (by decide) (fun _ => W.widen (by omega) (by omega) (kk G μ2 H locs ls h13 F hIV2 hW hS hl)) (fun q => absurd rfl q)
set_option maxHeartbeats 4000000 in
set_option maxRecDepth 100000 in
theorem t_count {code9 v : Int32} (h13 : G.2.2.2 13 = 1) (F : FX (fg G) s.heap.size RL cL_law 7 p s m args meth c) (hW : WH (fg G) s.heap.size μ1 H) (hS : va_S (fb s.heap.size) s.heap H locs) (hl : lv_has ls 7 [(0, .ref sb), (1, .ref (s.heap.size + 0)), (2, .ref (s.heap.size + 306)), (3, .ref (s.heap.size + 331)), (4, .int i)]) (hX : va_X sb L xs s s.heap) (hsb : sb < s.heap.size) (hin : ∀ t : Int32, t ∈ [(1 : Int32), 2, 3, 4, 5] → vp_in (i + t) L) (hc1 : cells + 4 ≤ room_1.cells) (hc2 : slots + 24 ≤ room_1.slots)
    (hd : sh_X12_count 120000 (xs (i + 1).toNatClampNeg) μ1 = some (v, μ2)) (hIV : IV μ2) (hth : μ2.1 306 0 = code9) (hval : code9 = 0 → Int64.ofNat (G.2.2.2 14) = v.toInt64) (kk : lwK p l e s m args below meth c sb i cells slots Q) : W p l e room_1 s m args below meth c H locs (cells + 4) (slots + 24) Q (F0 m 454 ls [.int code9]) := by
  have hx := F.1
  have hb := F.2.1
  refine lv_istore (lv' := [(5, .int code9), (0, .ref sb), (1, .ref (s.heap.size + 0)), (2, .ref (s.heap.size + 306)), (3, .ref (s.heap.size + 331)), (4, .int i)]) hx hb dL_law_454 hl (by decide) rfl (fun ls hl => ?_)
  refine lv_aload_n hx hb dL_law_456 rfl (lv_at hl 3 rfl) ?_
  refine l_arg (k0 := 1) (k4 := 5) (t := 1) hx hb hX hsb hS hl rfl rfl (hin 1 (by decide)) dL_law_457 dL_law_458 dL_law_460 (by decide) dL_law_461 dL_law_462 ?_
  refine k_X12_count F hd q_1759 ⟨Nat.le_of_ble_eq_true rfl, Nat.le_of_ble_eq_true rfl, by omega, by omega⟩ hW hS hl.1 (Nat.le_of_ble_eq_true rfl) dL_law_463 (fun H locs hW hS => ?_)
  refine lv_istore (lv' := [(6, .int v), (5, .int code9), (0, .ref sb), (1, .ref (s.heap.size + 0)), (2, .ref (s.heap.size + 306)), (3, .ref (s.heap.size + 331)), (4, .int i)]) hx hb dL_law_466 hl (by decide) rfl (fun ls hl => ?_)
  refine lv_aload_n hx hb dL_law_468 rfl (lv_at hl 4 rfl) ?_
  refine k_X12_thrown F (show sh_X12_thrown μ2 = some code9 from congrArg some hth) q_1457 ⟨Nat.le_of_ble_eq_true rfl, Nat.le_of_ble_eq_true rfl, by omega, by omega⟩ hW hS hl.1 (Nat.le_of_ble_eq_true rfl) dL_law_469 (fun H locs hW hS => ?_)
  refine lv_iload hx hb dL_law_472 (lv_at hl 1 rfl) ?_
  refine lv_icmp_eq (tgt := 479) hx hb dL_law_474 (by decide) (fun _ => ?_) (fun q => absurd rfl q)
  refine lv_iload hx hb dL_law_479 (lv_at hl 1 rfl) ?_
  refine lv_if_ne (tgt := 496) hx hb dL_law_481 (by decide) (fun _ => lv_goto (tgt := 2642) hx hb dL_law_496 (by decide) (kk G μ2 H locs ls h13 F hIV hW hS (lv_sub hl [2, 3, 4, 5, 6] rfl))) (fun h0 => ?_)
  refine lv_aload_n hx hb dL_law_484 rfl (lv_at hl 5 rfl) ?_
  refine lv_iconst (v := (0 : Int32)) hx hb dL_law_485 (by decide) ?_
  refine l_out h13 F hW dL_law_486 ?_
  rw [hval h0]
  refine lv_iload hx hb dL_law_487 (lv_at hl 0 rfl) ?_
  refine lv_i2l hx hb dL_law_489 rfl ?_
  refine W.lcmp hx hb dL_law_490 ?_
  rw [cmp_0]
  exact lv_if_eq (tgt := 496) hx hb dL_law_491 (by decide) (fun _ => lv_goto (tgt := 2642) hx hb dL_law_496 (by decide) (kk G μ2 H locs ls h13 F hIV hW hS (lv_sub hl [2, 3, 4, 5, 6] rfl))) (fun q => absurd rfl q)
set_option maxHeartbeats 4000000 in
set_option maxRecDepth 100000 in
theorem s_count (hlT : l.stackTraces = false) (hB : lwB p s m args meth c sb L xs i cells slots G μ H locs ls) (kk : lwK p l e s m args below meth c sb i cells slots Q) : W p l e room_1 s m args below meth c H locs cells slots Q (F0 m 443 ls []) := by
  obtain ⟨h13, F, hIV, hW, hS, hl, hX, hsb, hin, hc1, hc2⟩ := hB
  have hx := F.1
  have hb := F.2.1
  replace hl : lv_has ls 7 [(0, .ref sb), (1, .ref (s.heap.size + 0)), (2, .ref (s.heap.size + 306)), (3, .ref (s.heap.size + 331)), (4, .int i)] := hl
  obtain ⟨x, v, μ2, hc, hd, hag, hIV2⟩ := i_count (n := 120000) (Nat.le_refl _) hIV (xs (i + 1).toNatClampNeg)
  refine lv_aload_n hx hb dL_law_443 rfl (lv_at hl 1 rfl) ?_
  refine l_arg (k0 := 0) (k4 := 4) (t := 1) hx hb hX hsb hS hl rfl rfl (hin 1 (by decide)) dL_law_444 dL_law_445 dL_law_447 (by decide) dL_law_448 dL_law_449 ?_
  refine lv_aload_n hx hb dL_law_450 rfl (lv_at hl 3 rfl) ?_
  cases x with
  | inl e9 =>
    obtain ⟨j, hj, hth⟩ := hag
    match j, hj, hth with
    | 0, hj, hth =>
      have e8 : e9 = 1 := (Option.some.inj (show some 1 = some e9 from hj)).symm
      subst e8
      exact l_call (c_L_count_x1 hlT h13 hc) ⟨rfl, rfl⟩ q_1081 q_0 q_1082 ⟨by decide +kernel, by decide +kernel, (show (parseMethodDescriptor yL_count.desc).map (fun d => d.parameters.length) = some 3 by decide +kernel)⟩ F q_1080 ⟨Nat.le_of_ble_eq_true rfl, Nat.le_of_ble_eq_true rfl, by omega, by omega⟩ hW hS hl.1 (Nat.le_of_ble_eq_true rfl) rfl dL_law_451 (fun n H locs hn hW hS => W.widen (by omega) (by omega) (t_count (gs_13.trans h13) (FX_gs F) hW hS hl hX hsb hin hc1 hc2 hd hIV2 (hth.trans (show jv (((0 : Nat) : Int) + 1) = 1 by decide)) (fun q => absurd q (by decide)) kk))
    | j + 1, hj, _ => exact absurd (show (none : Option Nat) = some e9 from hj) (fun q => nomatch q)
  | inr r =>
    obtain ⟨hth, hv⟩ := hag
    subst hv
    exact l_call (c_L_count_ok hlT h13 hc) ⟨rfl, rfl⟩ q_1081 q_0 q_1082 ⟨by decide +kernel, by decide +kernel, (show (parseMethodDescriptor yL_count.desc).map (fun d => d.parameters.length) = some 3 by decide +kernel)⟩ F q_1080 ⟨Nat.le_of_ble_eq_true rfl, Nat.le_of_ble_eq_true rfl, by omega, by omega⟩ hW hS hl.1 (Nat.le_of_ble_eq_true rfl) rfl dL_law_451 (fun n H locs hn hW hS => W.widen (by omega) (by omega) (t_count (gs_13.trans h13) (FX_gs F) hW hS hl hX hsb hin hc1 hc2 hd hIV2 (hth.trans (show jv 0 = 0 by decide)) (fun _ => hn _ rfl) kk))
set_option maxHeartbeats 4000000 in
set_option maxRecDepth 100000 in
theorem t_isOverfull {code9 v : Int32} (h13 : G.2.2.2 13 = 1) (F : FX (fg G) s.heap.size RL cL_law 7 p s m args meth c) (hW : WH (fg G) s.heap.size μ1 H) (hS : va_S (fb s.heap.size) s.heap H locs) (hl : lv_has ls 7 [(0, .ref sb), (1, .ref (s.heap.size + 0)), (2, .ref (s.heap.size + 306)), (3, .ref (s.heap.size + 331)), (4, .int i)]) (hX : va_X sb L xs s s.heap) (hsb : sb < s.heap.size) (hin : ∀ t : Int32, t ∈ [(1 : Int32), 2, 3, 4, 5] → vp_in (i + t) L) (hc1 : cells + 4 ≤ room_1.cells) (hc2 : slots + 24 ≤ room_1.slots)
    (hd : sh_X12_isOverfull 120000 (xs (i + 1).toNatClampNeg) μ1 = some (v, μ2)) (hIV : IV μ2) (hth : μ2.1 306 0 = code9) (hval : code9 = 0 → Int64.ofNat (G.2.2.2 14) = if v = 0 then 0 else 1) (kk : lwK p l e s m args below meth c sb i cells slots Q) : W p l e room_1 s m args below meth c H locs (cells + 4) (slots + 24) Q (F0 m 1399 ls [.int code9]) := by
  have hx := F.1
  have hb := F.2.1
  refine lv_istore (lv' := [(5, .int code9), (0, .ref sb), (1, .ref (s.heap.size + 0)), (2, .ref (s.heap.size + 306)), (3, .ref (s.heap.size + 331)), (4, .int i)]) hx hb dL_law_1399 hl (by decide) rfl (fun ls hl => ?_)
  refine lv_aload_n hx hb dL_law_1401 rfl (lv_at hl 3 rfl) ?_
  refine l_arg (k0 := 1) (k4 := 5) (t := 1) hx hb hX hsb hS hl rfl rfl (hin 1 (by decide)) dL_law_1402 dL_law_1403 dL_law_1405 (by decide) dL_law_1406 dL_law_1407 ?_
  refine k_X12_isOverfull F hd q_1954 ⟨Nat.le_of_ble_eq_true rfl, Nat.le_of_ble_eq_true rfl, by omega, by omega⟩ hW hS hl.1 (Nat.le_of_ble_eq_true rfl) dL_law_1408 (fun H locs hW hS => ?_)
  refine lv_istore (lv' := [(6, .int v), (5, .int code9), (0, .ref sb), (1, .ref (s.heap.size + 0)), (2, .ref (s.heap.size + 306)), (3, .ref (s.heap.size + 331)), (4, .int i)]) hx hb dL_law_1411 hl (by decide) rfl (fun ls hl => ?_)
  refine lv_aload_n hx hb dL_law_1413 rfl (lv_at hl 4 rfl) ?_
  refine k_X12_thrown F (show sh_X12_thrown μ2 = some code9 from congrArg some hth) q_1457 ⟨Nat.le_of_ble_eq_true rfl, Nat.le_of_ble_eq_true rfl, by omega, by omega⟩ hW hS hl.1 (Nat.le_of_ble_eq_true rfl) dL_law_1414 (fun H locs hW hS => ?_)
  refine lv_iload hx hb dL_law_1417 (lv_at hl 1 rfl) ?_
  refine lv_icmp_eq (tgt := 1424) hx hb dL_law_1419 (by decide) (fun _ => ?_) (fun q => absurd rfl q)
  refine lv_iload hx hb dL_law_1424 (lv_at hl 1 rfl) ?_
  refine lv_if_ne (tgt := 1448) hx hb dL_law_1426 (by decide) (fun _ => lv_goto (tgt := 2642) hx hb dL_law_1448 (by decide) (kk G μ2 H locs ls h13 F hIV hW hS (lv_sub hl [2, 3, 4, 5, 6] rfl))) (fun h0 => ?_)
  refine lv_aload_n hx hb dL_law_1429 rfl (lv_at hl 5 rfl) ?_
  refine lv_iconst (v := (0 : Int32)) hx hb dL_law_1430 (by decide) ?_
  refine l_out h13 F hW dL_law_1431 ?_
  rw [hval h0]
  refine lv_iload hx hb dL_law_1432 (lv_at hl 0 rfl) ?_
  refine lv_if_eq (tgt := 1441) hx hb dL_law_1434 (by decide) (fun cc => ?_) (fun cc => ?_)
  · rw [if_pos cc]
    refine lv_lconst (v := (0 : Int64)) hx hb dL_law_1441 (by decide) ?_
    refine W.lcmp hx hb dL_law_1442 ?_
    rw [cmp_0]
    exact lv_if_eq (tgt := 1448) hx hb dL_law_1443 (by decide) (fun _ => lv_goto (tgt := 2642) hx hb dL_law_1448 (by decide) (kk G μ2 H locs ls h13 F hIV hW hS (lv_sub hl [2, 3, 4, 5, 6] rfl))) (fun q => absurd rfl q)
  · rw [if_neg cc]
    refine lv_lconst (v := (1 : Int64)) hx hb dL_law_1437 (by decide) ?_
    refine lv_goto (tgt := 1442) hx hb dL_law_1438 (by decide) ?_
    refine W.lcmp hx hb dL_law_1442 ?_
    rw [cmp_0]
    exact lv_if_eq (tgt := 1448) hx hb dL_law_1443 (by decide) (fun _ => lv_goto (tgt := 2642) hx hb dL_law_1448 (by decide) (kk G μ2 H locs ls h13 F hIV hW hS (lv_sub hl [2, 3, 4, 5, 6] rfl))) (fun q => absurd rfl q)
set_option maxHeartbeats 4000000 in
set_option maxRecDepth 100000 in
theorem s_isOverfull (hlT : l.stackTraces = false) (hB : lwB p s m args meth c sb L xs i cells slots G μ H locs ls) (kk : lwK p l e s m args below meth c sb i cells slots Q) : W p l e room_1 s m args below meth c H locs cells slots Q (F0 m 1388 ls []) := by
  obtain ⟨h13, F, hIV, hW, hS, hl, hX, hsb, hin, hc1, hc2⟩ := hB
  have hx := F.1
  have hb := F.2.1
  replace hl : lv_has ls 7 [(0, .ref sb), (1, .ref (s.heap.size + 0)), (2, .ref (s.heap.size + 306)), (3, .ref (s.heap.size + 331)), (4, .int i)] := hl
  obtain ⟨x, v, μ2, hc, hd, hag, hIV2⟩ := i_isOverfull (n := 120000) (Nat.le_refl _) hIV (xs (i + 1).toNatClampNeg)
  refine lv_aload_n hx hb dL_law_1388 rfl (lv_at hl 1 rfl) ?_
  refine l_arg (k0 := 0) (k4 := 4) (t := 1) hx hb hX hsb hS hl rfl rfl (hin 1 (by decide)) dL_law_1389 dL_law_1390 dL_law_1392 (by decide) dL_law_1393 dL_law_1394 ?_
  refine lv_aload_n hx hb dL_law_1395 rfl (lv_at hl 3 rfl) ?_
  cases x with
  | inl e9 =>
    obtain ⟨j, hj, hth⟩ := hag
    match j, hj, hth with
    | 0, hj, hth =>
      have e8 : e9 = 2 := (Option.some.inj (show some 2 = some e9 from hj)).symm
      subst e8
      exact l_call (c_L_isOverfull_x2 hlT h13 hc) ⟨rfl, rfl⟩ q_1256 q_0 q_1257 ⟨by decide +kernel, by decide +kernel, (show (parseMethodDescriptor yL_isOverfull.desc).map (fun d => d.parameters.length) = some 3 by decide +kernel)⟩ F q_1255 ⟨Nat.le_of_ble_eq_true rfl, Nat.le_of_ble_eq_true rfl, by omega, by omega⟩ hW hS hl.1 (Nat.le_of_ble_eq_true rfl) rfl dL_law_1396 (fun n H locs hn hW hS => W.widen (by omega) (by omega) (t_isOverfull (gs_13.trans h13) (FX_gs F) hW hS hl hX hsb hin hc1 hc2 hd hIV2 (hth.trans (show jv (((0 : Nat) : Int) + 1) = 1 by decide)) (fun q => absurd q (by decide)) kk))
    | j + 1, hj, _ => exact absurd (show (none : Option Nat) = some e9 from hj) (fun q => nomatch q)
  | inr r =>
    obtain ⟨hth, hv⟩ := hag
    subst hv
    exact l_call (c_L_isOverfull_ok hlT h13 hc) ⟨rfl, rfl⟩ q_1256 q_0 q_1257 ⟨by decide +kernel, by decide +kernel, (show (parseMethodDescriptor yL_isOverfull.desc).map (fun d => d.parameters.length) = some 3 by decide +kernel)⟩ F q_1255 ⟨Nat.le_of_ble_eq_true rfl, Nat.le_of_ble_eq_true rfl, by omega, by omega⟩ hW hS hl.1 (Nat.le_of_ble_eq_true rfl) rfl dL_law_1396 (fun n H locs hn hW hS => W.widen (by omega) (by omega) (t_isOverfull (gs_13.trans h13) (FX_gs F) hW hS hl hX hsb hin hc1 hc2 hd hIV2 (hth.trans (show jv 0 = 0 by decide)) (fun _ => hn _ rfl) kk))
set_option maxHeartbeats 4000000 in
set_option maxRecDepth 100000 in
theorem s_setRight (hlT : l.stackTraces = false) (hB : lwB p s m args meth c sb L xs i cells slots G μ H locs ls) (kk : lwK p l e s m args below meth c sb i cells slots Q) : W p l e room_1 s m args below meth c H locs cells slots Q (F0 m 2075 ls []) := by
  obtain ⟨h13, F, hIV, hW, hS, hl, hX, hsb, hin, hc1, hc2⟩ := hB
  have hx := F.1
  have hb := F.2.1
  replace hl : lv_has ls 7 [(0, .ref sb), (1, .ref (s.heap.size + 0)), (2, .ref (s.heap.size + 306)), (3, .ref (s.heap.size + 331)), (4, .int i)] := hl
  obtain ⟨r, hr, hz⟩ : ∃ r : Int, (r = 0 ∨ r = 1) ∧ (((xs (i + 1).toNatClampNeg) = 0 → r = 0) ∧ (¬ (xs (i + 1).toNatClampNeg) = 0 → r = 1)) := by
    by_cases z : (xs (i + 1).toNatClampNeg) = 0
    · exact ⟨0, Or.inl rfl, fun _ => rfl, fun q => absurd z q⟩
    · exact ⟨1, Or.inr rfl, fun q => absurd q z, fun _ => rfl⟩
  obtain ⟨v, μ1, μ2, hc, hd, hIV2⟩ := i_setRight (n := 120000) (Nat.le_refl _) hIV hr
  have call_X12 : ∀ (H : Heap) (locs : List Loc), WH (fg G) s.heap.size μ1 H → va_S (fb s.heap.size) s.heap H locs → W p l e room_1 s m args below meth c H locs cells slots Q (F0 m 2108 ls (.int (jv r) :: .ref (s.heap.size + 306) :: [.int v])) := by
    intro H locs hW hS
    refine k_X12_setRight F hd q_2078 ⟨Nat.le_of_ble_eq_true rfl, Nat.le_of_ble_eq_true rfl, by omega, by omega⟩ hW hS hl.1 (Nat.le_of_ble_eq_true rfl) dL_law_2108 (fun H locs hW hS => ?_)
    exact lv_icmp_eq (tgt := 2642) hx hb dL_law_2111 (by decide) (fun _ => W.widen (by omega) (by omega) (kk G μ2 H locs ls h13 F hIV2 hW hS hl)) (fun q => absurd rfl q)
  have mdl : ∀ (H : Heap) (locs : List Loc), WH (fg G) s.heap.size μ1 H → va_S (fb s.heap.size) s.heap H locs → W p l e room_1 s m args below meth c H locs cells slots Q (F0 m 2093 ls [.int v]) := by
    intro H locs hW hS
    refine lv_aload_n hx hb dL_law_2093 rfl (lv_at hl 2 rfl) ?_
    refine l_arg (k0 := 0) (k4 := 4) (t := 1) hx hb hX hsb hS hl rfl rfl (hin 1 (by decide)) dL_law_2094 dL_law_2095 dL_law_2097 (by decide) dL_law_2098 dL_law_2099 ?_
    refine lv_if_eq (tgt := 2107) hx hb dL_law_2100 (by decide) (fun cc => ?_) (fun cc => ?_)
    · refine lv_iconst (v := jv r) hx hb dL_law_2107 (by rw [hz.1 cc]; decide) ?_
      exact call_X12 H locs hW hS
    · refine lv_iconst (v := jv r) hx hb dL_law_2103 (by rw [hz.2 cc]; decide) ?_
      refine lv_goto (tgt := 2108) hx hb dL_law_2104 (by decide) ?_
      exact call_X12 H locs hW hS
  have call_X11 : ∀ (H : Heap) (locs : List Loc), WH (fg G) s.heap.size μ H → va_S (fb s.heap.size) s.heap H locs → W p l e room_1 s m args below meth c H locs cells slots Q (F0 m 2090 ls (.int (jv r) :: .ref (s.heap.size + 0) :: [])) := by
    intro H locs hW hS
    refine k_X11_setRight F hc q_871 ⟨Nat.le_of_ble_eq_true rfl, Nat.le_of_ble_eq_true rfl, by omega, by omega⟩ hW hS hl.1 (Nat.le_of_ble_eq_true rfl) dL_law_2090 (fun H locs hW hS => ?_)
    exact mdl H locs hW hS
  refine lv_aload_n hx hb dL_law_2075 rfl (lv_at hl 1 rfl) ?_
  refine l_arg (k0 := 0) (k4 := 4) (t := 1) hx hb hX hsb hS hl rfl rfl (hin 1 (by decide)) dL_law_2076 dL_law_2077 dL_law_2079 (by decide) dL_law_2080 dL_law_2081 ?_
  refine lv_if_eq (tgt := 2089) hx hb dL_law_2082 (by decide) (fun cc => ?_) (fun cc => ?_)
  · refine lv_iconst (v := jv r) hx hb dL_law_2089 (by rw [hz.1 cc]; decide) ?_
    exact call_X11 H locs hW hS
  · refine lv_iconst (v := jv r) hx hb dL_law_2085 (by rw [hz.2 cc]; decide) ?_
    refine lv_goto (tgt := 2090) hx hb dL_law_2086 (by decide) ?_
    exact call_X11 H locs hW hS
set_option maxHeartbeats 4000000 in
set_option maxRecDepth 100000 in
theorem t_section {code9 v : Int32} (h13 : G.2.2.2 13 = 1) (F : FX (fg G) s.heap.size RL cL_law 7 p s m args meth c) (hW : WH (fg G) s.heap.size μ1 H) (hS : va_S (fb s.heap.size) s.heap H locs) (hl : lv_has ls 7 [(0, .ref sb), (1, .ref (s.heap.size + 0)), (2, .ref (s.heap.size + 306)), (3, .ref (s.heap.size + 331)), (4, .int i)]) (hX : va_X sb L xs s s.heap) (hsb : sb < s.heap.size) (hin : ∀ t : Int32, t ∈ [(1 : Int32), 2, 3, 4, 5] → vp_in (i + t) L) (hc1 : cells + 4 ≤ room_1.cells) (hc2 : slots + 24 ≤ room_1.slots)
    (hd : sh_X12_section 120000 (xs (i + 1).toNatClampNeg) (xs (i + 2).toNatClampNeg) μ1 = some (v, μ2)) (hIV : IV μ2) (hth : μ2.1 306 0 = code9) (hval : code9 = 0 → Int64.ofNat (G.2.2.2 14) = v.toInt64) (kk : lwK p l e s m args below meth c sb i cells slots Q) : W p l e room_1 s m args below meth c H locs (cells + 4) (slots + 24) Q (F0 m 585 ls [.int code9]) := by
  have hx := F.1
  have hb := F.2.1
  refine lv_istore (lv' := [(5, .int code9), (0, .ref sb), (1, .ref (s.heap.size + 0)), (2, .ref (s.heap.size + 306)), (3, .ref (s.heap.size + 331)), (4, .int i)]) hx hb dL_law_585 hl (by decide) rfl (fun ls hl => ?_)
  refine lv_aload_n hx hb dL_law_587 rfl (lv_at hl 3 rfl) ?_
  refine l_arg (k0 := 1) (k4 := 5) (t := 1) hx hb hX hsb hS hl rfl rfl (hin 1 (by decide)) dL_law_588 dL_law_589 dL_law_591 (by decide) dL_law_592 dL_law_593 ?_
  refine l_arg (k0 := 1) (k4 := 5) (t := 2) hx hb hX hsb hS hl rfl rfl (hin 2 (by decide)) dL_law_594 dL_law_595 dL_law_597 (by decide) dL_law_598 dL_law_599 ?_
  refine k_X12_section F hd q_1864 ⟨Nat.le_of_ble_eq_true rfl, Nat.le_of_ble_eq_true rfl, by omega, by omega⟩ hW hS hl.1 (Nat.le_of_ble_eq_true rfl) dL_law_600 (fun H locs hW hS => ?_)
  refine lv_istore (lv' := [(6, .int v), (5, .int code9), (0, .ref sb), (1, .ref (s.heap.size + 0)), (2, .ref (s.heap.size + 306)), (3, .ref (s.heap.size + 331)), (4, .int i)]) hx hb dL_law_603 hl (by decide) rfl (fun ls hl => ?_)
  refine lv_aload_n hx hb dL_law_605 rfl (lv_at hl 4 rfl) ?_
  refine k_X12_thrown F (show sh_X12_thrown μ2 = some code9 from congrArg some hth) q_1457 ⟨Nat.le_of_ble_eq_true rfl, Nat.le_of_ble_eq_true rfl, by omega, by omega⟩ hW hS hl.1 (Nat.le_of_ble_eq_true rfl) dL_law_606 (fun H locs hW hS => ?_)
  refine lv_iload hx hb dL_law_609 (lv_at hl 1 rfl) ?_
  refine lv_icmp_eq (tgt := 616) hx hb dL_law_611 (by decide) (fun _ => ?_) (fun q => absurd rfl q)
  refine lv_iload hx hb dL_law_616 (lv_at hl 1 rfl) ?_
  refine lv_if_ne (tgt := 633) hx hb dL_law_618 (by decide) (fun _ => lv_goto (tgt := 2642) hx hb dL_law_633 (by decide) (kk G μ2 H locs ls h13 F hIV hW hS (lv_sub hl [2, 3, 4, 5, 6] rfl))) (fun h0 => ?_)
  refine lv_aload_n hx hb dL_law_621 rfl (lv_at hl 5 rfl) ?_
  refine lv_iconst (v := (0 : Int32)) hx hb dL_law_622 (by decide) ?_
  refine l_out h13 F hW dL_law_623 ?_
  rw [hval h0]
  refine lv_iload hx hb dL_law_624 (lv_at hl 0 rfl) ?_
  refine lv_i2l hx hb dL_law_626 rfl ?_
  refine W.lcmp hx hb dL_law_627 ?_
  rw [cmp_0]
  exact lv_if_eq (tgt := 633) hx hb dL_law_628 (by decide) (fun _ => lv_goto (tgt := 2642) hx hb dL_law_633 (by decide) (kk G μ2 H locs ls h13 F hIV hW hS (lv_sub hl [2, 3, 4, 5, 6] rfl))) (fun q => absurd rfl q)
set_option maxHeartbeats 4000000 in
set_option maxRecDepth 100000 in
theorem s_section (hlT : l.stackTraces = false) (hB : lwB p s m args meth c sb L xs i cells slots G μ H locs ls) (kk : lwK p l e s m args below meth c sb i cells slots Q) : W p l e room_1 s m args below meth c H locs cells slots Q (F0 m 568 ls []) := by
  obtain ⟨h13, F, hIV, hW, hS, hl, hX, hsb, hin, hc1, hc2⟩ := hB
  have hx := F.1
  have hb := F.2.1
  replace hl : lv_has ls 7 [(0, .ref sb), (1, .ref (s.heap.size + 0)), (2, .ref (s.heap.size + 306)), (3, .ref (s.heap.size + 331)), (4, .int i)] := hl
  obtain ⟨x, v, μ2, hc, hd, hag, hIV2⟩ := i_section (n := 120000) (Nat.le_refl _) hIV (xs (i + 1).toNatClampNeg) (xs (i + 2).toNatClampNeg)
  refine lv_aload_n hx hb dL_law_568 rfl (lv_at hl 1 rfl) ?_
  refine l_arg (k0 := 0) (k4 := 4) (t := 1) hx hb hX hsb hS hl rfl rfl (hin 1 (by decide)) dL_law_569 dL_law_570 dL_law_572 (by decide) dL_law_573 dL_law_574 ?_
  refine l_arg (k0 := 0) (k4 := 4) (t := 2) hx hb hX hsb hS hl rfl rfl (hin 2 (by decide)) dL_law_575 dL_law_576 dL_law_578 (by decide) dL_law_579 dL_law_580 ?_
  refine lv_aload_n hx hb dL_law_581 rfl (lv_at hl 3 rfl) ?_
  cases x with
  | inl e9 =>
    obtain ⟨j, hj, hth⟩ := hag
    match j, hj, hth with
    | 0, hj, hth =>
      have e8 : e9 = 2 := (Option.some.inj (show some 2 = some e9 from hj)).symm
      subst e8
      exact l_call (c_L_section_x2 hlT h13 hc) ⟨rfl, rfl⟩ q_1097 q_0 q_1098 ⟨by decide +kernel, by decide +kernel, (show (parseMethodDescriptor yL_section.desc).map (fun d => d.parameters.length) = some 4 by decide +kernel)⟩ F q_1096 ⟨Nat.le_of_ble_eq_true rfl, Nat.le_of_ble_eq_true rfl, by omega, by omega⟩ hW hS hl.1 (Nat.le_of_ble_eq_true rfl) rfl dL_law_582 (fun n H locs hn hW hS => W.widen (by omega) (by omega) (t_section (gs_13.trans h13) (FX_gs F) hW hS hl hX hsb hin hc1 hc2 hd hIV2 (hth.trans (show jv (((0 : Nat) : Int) + 1) = 1 by decide)) (fun q => absurd q (by decide)) kk))
    | 1, hj, hth =>
      have e8 : e9 = 1 := (Option.some.inj (show some 1 = some e9 from hj)).symm
      subst e8
      exact l_call (c_L_section_x1 hlT h13 hc) ⟨rfl, rfl⟩ q_1097 q_0 q_1098 ⟨by decide +kernel, by decide +kernel, (show (parseMethodDescriptor yL_section.desc).map (fun d => d.parameters.length) = some 4 by decide +kernel)⟩ F q_1096 ⟨Nat.le_of_ble_eq_true rfl, Nat.le_of_ble_eq_true rfl, by omega, by omega⟩ hW hS hl.1 (Nat.le_of_ble_eq_true rfl) rfl dL_law_582 (fun n H locs hn hW hS => W.widen (by omega) (by omega) (t_section (gs_13.trans h13) (FX_gs F) hW hS hl hX hsb hin hc1 hc2 hd hIV2 (hth.trans (show jv (((1 : Nat) : Int) + 1) = 2 by decide)) (fun q => absurd q (by decide)) kk))
    | j + 2, hj, _ => exact absurd (show (none : Option Nat) = some e9 from hj) (fun q => nomatch q)
  | inr r =>
    obtain ⟨hth, hv⟩ := hag
    subst hv
    exact l_call (c_L_section_ok hlT h13 hc) ⟨rfl, rfl⟩ q_1097 q_0 q_1098 ⟨by decide +kernel, by decide +kernel, (show (parseMethodDescriptor yL_section.desc).map (fun d => d.parameters.length) = some 4 by decide +kernel)⟩ F q_1096 ⟨Nat.le_of_ble_eq_true rfl, Nat.le_of_ble_eq_true rfl, by omega, by omega⟩ hW hS hl.1 (Nat.le_of_ble_eq_true rfl) rfl dL_law_582 (fun n H locs hn hW hS => W.widen (by omega) (by omega) (t_section (gs_13.trans h13) (FX_gs F) hW hS hl hX hsb hin hc1 hc2 hd hIV2 (hth.trans (show jv 0 = 0 by decide)) (fun _ => hn _ rfl) kk))
set_option maxHeartbeats 4000000 in
set_option maxRecDepth 100000 in
theorem s_isRight (hlT : l.stackTraces = false) (hB : lwB p s m args meth c sb L xs i cells slots G μ H locs ls) (kk : lwK p l e s m args below meth c sb i cells slots Q) : W p l e room_1 s m args below meth c H locs cells slots Q (F0 m 555 ls []) := by
  obtain ⟨h13, F, hIV, hW, hS, hl, hX, hsb, hin, hc1, hc2⟩ := hB
  have hx := F.1
  have hb := F.2.1
  replace hl : lv_has ls 7 [(0, .ref sb), (1, .ref (s.heap.size + 0)), (2, .ref (s.heap.size + 306)), (3, .ref (s.heap.size + 331)), (4, .int i)] := hl
  obtain ⟨v, μ2, hc, hd, hIV2⟩ := i_isRight (n := 120000) (Nat.le_refl _) hIV
  refine lv_aload_n hx hb dL_law_555 rfl (lv_at hl 1 rfl) ?_
  refine k_X11_isRight F hc q_797 ⟨Nat.le_of_ble_eq_true rfl, Nat.le_of_ble_eq_true rfl, by omega, by omega⟩ hW hS hl.1 (Nat.le_of_ble_eq_true rfl) dL_law_556 (fun H locs hW hS => ?_)
  refine lv_aload_n hx hb dL_law_559 rfl (lv_at hl 2 rfl) ?_
  refine k_X12_isRight F hd q_1860 ⟨Nat.le_of_ble_eq_true rfl, Nat.le_of_ble_eq_true rfl, by omega, by omega⟩ hW hS hl.1 (Nat.le_of_ble_eq_true rfl) dL_law_560 (fun H locs hW hS => ?_)
  exact lv_icmp_eq (tgt := 2642) hx hb dL_law_563 (by decide) (fun _ => W.widen (by omega) (by omega) (kk G μ2 H locs ls h13 F hIV2 hW hS hl)) (fun q => absurd rfl q)
end CASES
