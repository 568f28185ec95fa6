/-! the law's cases, on -/
section CASES
variable {p : Program} {l : Launch} {e : Env} {s : State} {m : MethodId} {args : Array Value} {below : List Frame} {meth : Method} {c : Code} {H : Heap} {locs : List Loc} {cells slots : Nat} {Q : State → Prop}
variable {ls : Array Slot} {G : Gt} {μ μ1 μ2 : Mm} {sb L : Nat} {xs : Nat → Int32} {i : Int32}
set_option maxHeartbeats 4000000 in
set_option maxRecDepth 100000 in
theorem t_firstDot {code9 v : Int32} (h13 : G.2.2.2 13 = 1) (F : FX (fg G) s.heap.size RL cL_law 7 p s m args meth c) (hW : WH (fg G) s.heap.size μ1 H) (hS : va_S (fb s.heap.size) s.heap H locs) (hl : lv_has ls 7 [(0, .ref sb), (1, .ref (s.heap.size + 0)), (2, .ref (s.heap.size + 306)), (3, .ref (s.heap.size + 331)), (4, .int i)]) (hX : va_X sb L xs s s.heap) (hsb : sb < s.heap.size) (hin : ∀ t : Int32, t ∈ [(1 : Int32), 2, 3, 4, 5] → vp_in (i + t) L) (hc1 : cells + 4 ≤ room_1.cells) (hc2 : slots + 24 ≤ room_1.slots)
    (hd : sh_X12_firstDot 120000 (xs (i + 1).toNatClampNeg) μ1 = some (v, μ2)) (hIV : IV μ2) (hth : μ2.1 306 0 = code9) (hval : code9 = 0 → Int64.ofNat (G.2.2.2 14) = v.toInt64) (kk : lwK p l e s m args below meth c sb i cells slots Q) : W p l e room_1 s m args below meth c H locs (cells + 4) (slots + 24) Q (F0 m 1287 ls [.int code9]) := by
  have hx := F.1
  have hb := F.2.1
  refine lv_istore (lv' := [(5, .int code9), (0, .ref sb), (1, .ref (s.heap.size + 0)), (2, .ref (s.heap.size + 306)), (3, .ref (s.heap.size + 331)), (4, .int i)]) hx hb dL_law_1287 hl (by decide) rfl (fun ls hl => ?_)
  refine lv_aload_n hx hb dL_law_1289 rfl (lv_at hl 3 rfl) ?_
  refine l_arg (k0 := 1) (k4 := 5) (t := 1) hx hb hX hsb hS hl rfl rfl (hin 1 (by decide)) dL_law_1290 dL_law_1291 dL_law_1293 (by decide) dL_law_1294 dL_law_1295 ?_
  refine k_X12_firstDot F hd q_1946 ⟨Nat.le_of_ble_eq_true rfl, Nat.le_of_ble_eq_true rfl, by omega, by omega⟩ hW hS hl.1 (Nat.le_of_ble_eq_true rfl) dL_law_1296 (fun H locs hW hS => ?_)
  refine lv_istore (lv' := [(6, .int v), (5, .int code9), (0, .ref sb), (1, .ref (s.heap.size + 0)), (2, .ref (s.heap.size + 306)), (3, .ref (s.heap.size + 331)), (4, .int i)]) hx hb dL_law_1299 hl (by decide) rfl (fun ls hl => ?_)
  refine lv_aload_n hx hb dL_law_1301 rfl (lv_at hl 4 rfl) ?_
  refine k_X12_thrown F (show sh_X12_thrown μ2 = some code9 from congrArg some hth) q_1457 ⟨Nat.le_of_ble_eq_true rfl, Nat.le_of_ble_eq_true rfl, by omega, by omega⟩ hW hS hl.1 (Nat.le_of_ble_eq_true rfl) dL_law_1302 (fun H locs hW hS => ?_)
  refine lv_iload hx hb dL_law_1305 (lv_at hl 1 rfl) ?_
  refine lv_icmp_eq (tgt := 1312) hx hb dL_law_1307 (by decide) (fun _ => ?_) (fun q => absurd rfl q)
  refine lv_iload hx hb dL_law_1312 (lv_at hl 1 rfl) ?_
  refine lv_if_ne (tgt := 1329) hx hb dL_law_1314 (by decide) (fun _ => lv_goto (tgt := 2642) hx hb dL_law_1329 (by decide) (kk G μ2 H locs ls h13 F hIV hW hS (lv_sub hl [2, 3, 4, 5, 6] rfl))) (fun h0 => ?_)
  refine lv_aload_n hx hb dL_law_1317 rfl (lv_at hl 5 rfl) ?_
  refine lv_iconst (v := (0 : Int32)) hx hb dL_law_1318 (by decide) ?_
  refine l_out h13 F hW dL_law_1319 ?_
  rw [hval h0]
  refine lv_iload hx hb dL_law_1320 (lv_at hl 0 rfl) ?_
  refine lv_i2l hx hb dL_law_1322 rfl ?_
  refine W.lcmp hx hb dL_law_1323 ?_
  rw [cmp_0]
  exact lv_if_eq (tgt := 1329) hx hb dL_law_1324 (by decide) (fun _ => lv_goto (tgt := 2642) hx hb dL_law_1329 (by decide) (kk G μ2 H locs ls h13 F hIV hW hS (lv_sub hl [2, 3, 4, 5, 6] rfl))) (fun q => absurd rfl q)
set_option maxHeartbeats 4000000 in
set_option maxRecDepth 100000 in
theorem s_firstDot (hlT : l.stackTraces = false) (hB : lwB p s m args meth c sb L xs i cells slots G μ H locs ls) (kk : lwK p l e s m args below meth c sb i cells slots Q) : W p l e room_1 s m args below meth c H locs cells slots Q (F0 m 1276 ls []) := by
  obtain ⟨h13, F, hIV, hW, hS, hl, hX, hsb, hin, hc1, hc2⟩ := hB
  have hx := F.1
  have hb := F.2.1
  replace hl : lv_has ls 7 [(0, .ref sb), (1, .ref (s.heap.size + 0)), (2, .ref (s.heap.size + 306)), (3, .ref (s.heap.size + 331)), (4, .int i)] := hl
  obtain ⟨x, v, μ2, hc, hd, hag, hIV2⟩ := i_firstDot (n := 120000) (Nat.le_refl _) hIV (xs (i + 1).toNatClampNeg)
  refine lv_aload_n hx hb dL_law_1276 rfl (lv_at hl 1 rfl) ?_
  refine l_arg (k0 := 0) (k4 := 4) (t := 1) hx hb hX hsb hS hl rfl rfl (hin 1 (by decide)) dL_law_1277 dL_law_1278 dL_law_1280 (by decide) dL_law_1281 dL_law_1282 ?_
  refine lv_aload_n hx hb dL_law_1283 rfl (lv_at hl 3 rfl) ?_
  cases x with
  | inl e9 =>
    obtain ⟨j, hj, hth⟩ := hag
    match j, hj, hth with
    | 0, hj, hth =>
      have e8 : e9 = 2 := (Option.some.inj (show some 2 = some e9 from hj)).symm
      subst e8
      exact l_call (c_L_firstDot_x2 hlT h13 hc) ⟨rfl, rfl⟩ q_1237 q_0 q_1238 ⟨by decide +kernel, by decide +kernel, (show (parseMethodDescriptor yL_firstDot.desc).map (fun d => d.parameters.length) = some 3 by decide +kernel)⟩ F q_1236 ⟨Nat.le_of_ble_eq_true rfl, Nat.le_of_ble_eq_true rfl, by omega, by omega⟩ hW hS hl.1 (Nat.le_of_ble_eq_true rfl) rfl dL_law_1284 (fun n H locs hn hW hS => W.widen (by omega) (by omega) (t_firstDot (gs_13.trans h13) (FX_gs F) hW hS hl hX hsb hin hc1 hc2 hd hIV2 (hth.trans (show jv (((0 : Nat) : Int) + 1) = 1 by decide)) (fun q => absurd q (by decide)) kk))
    | 1, hj, hth =>
      have e8 : e9 = 3 := (Option.some.inj (show some 3 = some e9 from hj)).symm
      subst e8
      exact l_call (c_L_firstDot_x3 hlT h13 hc) ⟨rfl, rfl⟩ q_1237 q_0 q_1238 ⟨by decide +kernel, by decide +kernel, (show (parseMethodDescriptor yL_firstDot.desc).map (fun d => d.parameters.length) = some 3 by decide +kernel)⟩ F q_1236 ⟨Nat.le_of_ble_eq_true rfl, Nat.le_of_ble_eq_true rfl, by omega, by omega⟩ hW hS hl.1 (Nat.le_of_ble_eq_true rfl) rfl dL_law_1284 (fun n H locs hn hW hS => W.widen (by omega) (by omega) (t_firstDot (gs_13.trans h13) (FX_gs F) hW hS hl hX hsb hin hc1 hc2 hd hIV2 (hth.trans (show jv (((1 : Nat) : Int) + 1) = 2 by decide)) (fun q => absurd q (by decide)) kk))
    | j + 2, hj, _ => exact absurd (show (none : Option Nat) = some e9 from hj) (fun q => nomatch q)
  | inr r =>
    obtain ⟨hth, hv⟩ := hag
    subst hv
    exact l_call (c_L_firstDot_ok hlT h13 hc) ⟨rfl, rfl⟩ q_1237 q_0 q_1238 ⟨by decide +kernel, by decide +kernel, (show (parseMethodDescriptor yL_firstDot.desc).map (fun d => d.parameters.length) = some 3 by decide +kernel)⟩ F q_1236 ⟨Nat.le_of_ble_eq_true rfl, Nat.le_of_ble_eq_true rfl, by omega, by omega⟩ hW hS hl.1 (Nat.le_of_ble_eq_true rfl) rfl dL_law_1284 (fun n H locs hn hW hS => W.widen (by omega) (by omega) (t_firstDot (gs_13.trans h13) (FX_gs F) hW hS hl hX hsb hin hc1 hc2 hd hIV2 (hth.trans (show jv 0 = 0 by decide)) (fun _ => hn _ rfl) kk))
set_option maxHeartbeats 4000000 in
set_option maxRecDepth 100000 in
theorem t_dotsAt {code9 v : Int32} (h13 : G.2.2.2 13 = 1) (F : FX (fg G) s.heap.size RL cL_law 7 p s m args meth c) (hW : WH (fg G) s.heap.size μ1 H) (hS : va_S (fb s.heap.size) s.heap H locs) (hl : lv_has ls 7 [(0, .ref sb), (1, .ref (s.heap.size + 0)), (2, .ref (s.heap.size + 306)), (3, .ref (s.heap.size + 331)), (4, .int i)]) (hX : va_X sb L xs s s.heap) (hsb : sb < s.heap.size) (hin : ∀ t : Int32, t ∈ [(1 : Int32), 2, 3, 4, 5] → vp_in (i + t) L) (hc1 : cells + 4 ≤ room_1.cells) (hc2 : slots + 24 ≤ room_1.slots)
    (hd : sh_X12_dotsAt 120000 (xs (i + 1).toNatClampNeg) μ1 = some (v, μ2)) (hIV : IV μ2) (hth : μ2.1 306 0 = code9) (hval : code9 = 0 → Int64.ofNat (G.2.2.2 14) = v.toInt64) (kk : lwK p l e s m args below meth c sb i cells slots Q) : W p l e room_1 s m args below meth c H locs (cells + 4) (slots + 24) Q (F0 m 1343 ls [.int code9]) := by
  have hx := F.1
  have hb := F.2.1
  refine lv_istore (lv' := [(5, .int code9), (0, .ref sb), (1, .ref (s.heap.size + 0)), (2, .ref (s.heap.size + 306)), (3, .ref (s.heap.size + 331)), (4, .int i)]) hx hb dL_law_1343 hl (by decide) rfl (fun ls hl => ?_)
  refine lv_aload_n hx hb dL_law_1345 rfl (lv_at hl 3 rfl) ?_
  refine l_arg (k0 := 1) (k4 := 5) (t := 1) hx hb hX hsb hS hl rfl rfl (hin 1 (by decide)) dL_law_1346 dL_law_1347 dL_law_1349 (by decide) dL_law_1350 dL_law_1351 ?_
  refine k_X12_dotsAt F hd q_1950 ⟨Nat.le_of_ble_eq_true rfl, Nat.le_of_ble_eq_true rfl, by omega, by omega⟩ hW hS hl.1 (Nat.le_of_ble_eq_true rfl) dL_law_1352 (fun H locs hW hS => ?_)
  refine lv_istore (lv' := [(6, .int v), (5, .int code9), (0, .ref sb), (1, .ref (s.heap.size + 0)), (2, .ref (s.heap.size + 306)), (3, .ref (s.heap.size + 331)), (4, .int i)]) hx hb dL_law_1355 hl (by decide) rfl (fun ls hl => ?_)
  refine lv_aload_n hx hb dL_law_1357 rfl (lv_at hl 4 rfl) ?_
  refine k_X12_thrown F (show sh_X12_thrown μ2 = some code9 from congrArg some hth) q_1457 ⟨Nat.le_of_ble_eq_true rfl, Nat.le_of_ble_eq_true rfl, by omega, by omega⟩ hW hS hl.1 (Nat.le_of_ble_eq_true rfl) dL_law_1358 (fun H locs hW hS => ?_)
  refine lv_iload hx hb dL_law_1361 (lv_at hl 1 rfl) ?_
  refine lv_icmp_eq (tgt := 1368) hx hb dL_law_1363 (by decide) (fun _ => ?_) (fun q => absurd rfl q)
  refine lv_iload hx hb dL_law_1368 (lv_at hl 1 rfl) ?_
  refine lv_if_ne (tgt := 1385) hx hb dL_law_1370 (by decide) (fun _ => lv_goto (tgt := 2642) hx hb dL_law_1385 (by decide) (kk G μ2 H locs ls h13 F hIV hW hS (lv_sub hl [2, 3, 4, 5, 6] rfl))) (fun h0 => ?_)
  refine lv_aload_n hx hb dL_law_1373 rfl (lv_at hl 5 rfl) ?_
  refine lv_iconst (v := (0 : Int32)) hx hb dL_law_1374 (by decide) ?_
  refine l_out h13 F hW dL_law_1375 ?_
  rw [hval h0]
  refine lv_iload hx hb dL_law_1376 (lv_at hl 0 rfl) ?_
  refine lv_i2l hx hb dL_law_1378 rfl ?_
  refine W.lcmp hx hb dL_law_1379 ?_
  rw [cmp_0]
  exact lv_if_eq (tgt := 1385) hx hb dL_law_1380 (by decide) (fun _ => lv_goto (tgt := 2642) hx hb dL_law_1385 (by decide) (kk G μ2 H locs ls h13 F hIV hW hS (lv_sub hl [2, 3, 4, 5, 6] rfl))) (fun q => absurd rfl q)
set_option maxHeartbeats 4000000 in
set_option maxRecDepth 100000 in
theorem s_dotsAt (hlT : l.stackTraces = false) (hB : lwB p s m args meth c sb L xs i cells slots G μ H locs ls) (kk : lwK p l e s m args below meth c sb i cells slots Q) : W p l e room_1 s m args below meth c H locs cells slots Q (F0 m 1332 ls []) := by
  obtain ⟨h13, F, hIV, hW, hS, hl, hX, hsb, hin, hc1, hc2⟩ := hB
  have hx := F.1
  have hb := F.2.1
  replace hl : lv_has ls 7 [(0, .ref sb), (1, .ref (s.heap.size + 0)), (2, .ref (s.heap.size + 306)), (3, .ref (s.heap.size + 331)), (4, .int i)] := hl
  obtain ⟨x, v, μ2, hc, hd, hag, hIV2⟩ := i_dotsAt (n := 120000) (Nat.le_refl _) hIV (xs (i + 1).toNatClampNeg)
  refine lv_aload_n hx hb dL_law_1332 rfl (lv_at hl 1 rfl) ?_
  refine l_arg (k0 := 0) (k4 := 4) (t := 1) hx hb hX hsb hS hl rfl rfl (hin 1 (by decide)) dL_law_1333 dL_law_1334 dL_law_1336 (by decide) dL_law_1337 dL_law_1338 ?_
  refine lv_aload_n hx hb dL_law_1339 rfl (lv_at hl 3 rfl) ?_
  cases x with
  | inl e9 =>
    obtain ⟨j, hj, hth⟩ := hag
    match j, hj, hth with
    | 0, hj, hth =>
      have e8 : e9 = 1 := (Option.some.inj (show some 1 = some e9 from hj)).symm
      subst e8
      exact l_call (c_L_dotsAt_x1 hlT h13 hc) ⟨rfl, rfl⟩ q_1244 q_0 q_1245 ⟨by decide +kernel, by decide +kernel, (show (parseMethodDescriptor yL_dotsAt.desc).map (fun d => d.parameters.length) = some 3 by decide +kernel)⟩ F q_1243 ⟨Nat.le_of_ble_eq_true rfl, Nat.le_of_ble_eq_true rfl, by omega, by omega⟩ hW hS hl.1 (Nat.le_of_ble_eq_true rfl) rfl dL_law_1340 (fun n H locs hn hW hS => W.widen (by omega) (by omega) (t_dotsAt (gs_13.trans h13) (FX_gs F) hW hS hl hX hsb hin hc1 hc2 hd hIV2 (hth.trans (show jv (((0 : Nat) : Int) + 1) = 1 by decide)) (fun q => absurd q (by decide)) kk))
    | j + 1, hj, _ => exact absurd (show (none : Option Nat) = some e9 from hj) (fun q => nomatch q)
  | inr r =>
    obtain ⟨hth, hv⟩ := hag
    subst hv
    exact l_call (c_L_dotsAt_ok hlT h13 hc) ⟨rfl, rfl⟩ q_1244 q_0 q_1245 ⟨by decide +kernel, by decide +kernel, (show (parseMethodDescriptor yL_dotsAt.desc).map (fun d => d.parameters.length) = some 3 by decide +kernel)⟩ F q_1243 ⟨Nat.le_of_ble_eq_true rfl, Nat.le_of_ble_eq_true rfl, by omega, by omega⟩ hW hS hl.1 (Nat.le_of_ble_eq_true rfl) rfl dL_law_1340 (fun n H locs hn hW hS => W.widen (by omega) (by omega) (t_dotsAt (gs_13.trans h13) (FX_gs F) hW hS hl hX hsb hin hc1 hc2 hd hIV2 (hth.trans (show jv 0 = 0 by decide)) (fun _ => hn _ rfl) kk))
set_option maxHeartbeats 4000000 in
set_option maxRecDepth 100000 in
theorem s_overfullCount (hlT : l.stackTraces = false) (hB : lwB p s m args meth c sb L xs i cells slots G μ H locs ls) (kk : lwK p l e s m args below meth c sb i cells slots Q) : W p l e room_1 s m args below meth c H locs cells slots Q (F0 m 1451 ls []) := by
  obtain ⟨h13, F, hIV, hW, hS, hl, hX, hsb, hin, hc1, hc2⟩ := hB
  have hx := F.1
  have hb := F.2.1
  replace hl : lv_has ls 7 [(0, .ref sb), (1, .ref (s.heap.size + 0)), (2, .ref (s.heap.size + 306)), (3, .ref (s.heap.size + 331)), (4, .int i)] := hl
  obtain ⟨v, μ2, hc, hd, hIV2⟩ := i_overfullCount (n := 120000) (Nat.le_refl _) hIV
  refine lv_aload_n hx hb dL_law_1451 rfl (lv_at hl 1 rfl) ?_
  refine k_X11_overfullCount F hc q_801 ⟨Nat.le_of_ble_eq_true rfl, Nat.le_of_ble_eq_true rfl, by omega, by omega⟩ hW hS hl.1 (Nat.le_of_ble_eq_true rfl) dL_law_1452 (fun H locs hW hS => ?_)
  refine lv_aload_n hx hb dL_law_1455 rfl (lv_at hl 2 rfl) ?_
  refine k_X12_overfullCount F hd q_1958 ⟨Nat.le_of_ble_eq_true rfl, Nat.le_of_ble_eq_true rfl, by omega, by omega⟩ hW hS hl.1 (Nat.le_of_ble_eq_true rfl) dL_law_1456 (fun H locs hW hS => ?_)
  exact lv_icmp_eq (tgt := 2642) hx hb dL_law_1459 (by decide) (fun _ => W.widen (by omega) (by omega) (kk G μ2 H locs ls h13 F hIV2 hW hS hl)) (fun q => absurd rfl q)
set_option maxHeartbeats 4000000 in
set_option maxRecDepth 100000 in
theorem s_rounds (hlT : l.stackTraces = false) (hB : lwB p s m args meth c sb L xs i cells slots G μ H locs ls) (kk : lwK p l e s m args below meth c sb i cells slots Q) : W p l e room_1 s m args below meth c H locs cells slots Q (F0 m 1464 ls []) := by
  obtain ⟨h13, F, hIV, hW, hS, hl, hX, hsb, hin, hc1, hc2⟩ := hB
  have hx := F.1
  have hb := F.2.1
  replace hl : lv_has ls 7 [(0, .ref sb), (1, .ref (s.heap.size + 0)), (2, .ref (s.heap.size + 306)), (3, .ref (s.heap.size + 331)), (4, .int i)] := hl
  obtain ⟨v, μ2, hc, hd, hIV2⟩ := i_rounds (n := 120000) (Nat.le_refl _) hIV
  refine lv_aload_n hx hb dL_law_1464 rfl (lv_at hl 1 rfl) ?_
  refine k_X11_rounds F hc q_813 ⟨Nat.le_of_ble_eq_true rfl, Nat.le_of_ble_eq_true rfl, by omega, by omega⟩ hW hS hl.1 (Nat.le_of_ble_eq_true rfl) dL_law_1465 (fun H locs hW hS => ?_)
  refine lv_aload_n hx hb dL_law_1468 rfl (lv_at hl 2 rfl) ?_
  refine k_X12_rounds F hd q_1966 ⟨Nat.le_of_ble_eq_true rfl, Nat.le_of_ble_eq_true rfl, by omega, by omega⟩ hW hS hl.1 (Nat.le_of_ble_eq_true rfl) dL_law_1469 (fun H locs hW hS => ?_)
  exact lv_icmp_eq (tgt := 2642) hx hb dL_law_1472 (by decide) (fun _ => W.widen (by omega) (by omega) (kk G μ2 H locs ls h13 F hIV2 hW hS hl)) (fun q => absurd rfl q)
set_option maxHeartbeats 4000000 in
set_option maxRecDepth 100000 in
theorem t_collides {code9 v : Int32} (h13 : G.2.2.2 13 = 1) (F : FX (fg G) s.heap.size RL cL_law 7 p s m args meth c) (hW : WH (fg G) s.heap.size μ1 H) (hS : va_S (fb s.heap.size) s.heap H locs) (hl : lv_has ls 7 [(0, .ref sb), (1, .ref (s.heap.size + 0)), (2, .ref (s.heap.size + 306)), (3, .ref (s.heap.size + 331)), (4, .int i)]) (hX : va_X sb L xs s s.heap) (hsb : sb < s.heap.size) (hin : ∀ t : Int32, t ∈ [(1 : Int32), 2, 3, 4, 5] → vp_in (i + t) L) (hc1 : cells + 4 ≤ room_1.cells) (hc2 : slots + 24 ≤ room_1.slots)
    (hd : sh_X12_collides 120000 (xs (i + 1).toNatClampNeg) μ1 = some (v, μ2)) (hIV : IV μ2) (hth : μ2.1 306 0 = code9) (hval : code9 = 0 → Int64.ofNat (G.2.2.2 14) = if v = 0 then 0 else 1) (kk : lwK p l e s m args below meth c sb i cells slots Q) : W p l e room_1 s m args below meth c H locs (cells + 4) (slots + 24) Q (F0 m 1488 ls [.int code9]) := by
  have hx := F.1
  have hb := F.2.1
  refine lv_istore (lv' := [(5, .int code9), (0, .ref sb), (1, .ref (s.heap.size + 0)), (2, .ref (s.heap.size + 306)), (3, .ref (s.heap.size + 331)), (4, .int i)]) hx hb dL_law_1488 hl (by decide) rfl (fun ls hl => ?_)
  refine lv_aload_n hx hb dL_law_1490 rfl (lv_at hl 3 rfl) ?_
  refine l_arg (k0 := 1) (k4 := 5) (t := 1) hx hb hX hsb hS hl rfl rfl (hin 1 (by decide)) dL_law_1491 dL_law_1492 dL_law_1494 (by decide) dL_law_1495 dL_law_1496 ?_
  refine k_X12_collides F hd q_1970 ⟨Nat.le_of_ble_eq_true rfl, Nat.le_of_ble_eq_true rfl, by omega, by omega⟩ hW hS hl.1 (Nat.le_of_ble_eq_true rfl) dL_law_1497 (fun H locs hW hS => ?_)
  refine lv_istore (lv' := [(6, .int v), (5, .int code9), (0, .ref sb), (1, .ref (s.heap.size + 0)), (2, .ref (s.heap.size + 306)), (3, .ref (s.heap.size + 331)), (4, .int i)]) hx hb dL_law_1500 hl (by decide) rfl (fun ls hl => ?_)
  refine lv_aload_n hx hb dL_law_1502 rfl (lv_at hl 4 rfl) ?_
  refine k_X12_thrown F (show sh_X12_thrown μ2 = some code9 from congrArg some hth) q_1457 ⟨Nat.le_of_ble_eq_true rfl, Nat.le_of_ble_eq_true rfl, by omega, by omega⟩ hW hS hl.1 (Nat.le_of_ble_eq_true rfl) dL_law_1503 (fun H locs hW hS => ?_)
  refine lv_iload hx hb dL_law_1506 (lv_at hl 1 rfl) ?_
  refine lv_icmp_eq (tgt := 1513) hx hb dL_law_1508 (by decide) (fun _ => ?_) (fun q => absurd rfl q)
  refine lv_iload hx hb dL_law_1513 (lv_at hl 1 rfl) ?_
  refine lv_if_ne (tgt := 1537) hx hb dL_law_1515 (by decide) (fun _ => lv_goto (tgt := 2642) hx hb dL_law_1537 (by decide) (kk G μ2 H locs ls h13 F hIV hW hS (lv_sub hl [2, 3, 4, 5, 6] rfl))) (fun h0 => ?_)
  refine lv_aload_n hx hb dL_law_1518 rfl (lv_at hl 5 rfl) ?_
  refine lv_iconst (v := (0 : Int32)) hx hb dL_law_1519 (by decide) ?_
  refine l_out h13 F hW dL_law_1520 ?_
  rw [hval h0]
  refine lv_iload hx hb dL_law_1521 (lv_at hl 0 rfl) ?_
  refine lv_if_eq (tgt := 1530) hx hb dL_law_1523 (by decide) (fun cc => ?_) (fun cc => ?_)
  · rw [if_pos cc]
    refine lv_lconst (v := (0 : Int64)) hx hb dL_law_1530 (by decide) ?_
    refine W.lcmp hx hb dL_law_1531 ?_
    rw [cmp_0]
    exact lv_if_eq (tgt := 1537) hx hb dL_law_1532 (by decide) (fun _ => lv_goto (tgt := 2642) hx hb dL_law_1537 (by decide) (kk G μ2 H locs ls h13 F hIV hW hS (lv_sub hl [2, 3, 4, 5, 6] rfl))) (fun q => absurd rfl q)
  · rw [if_neg cc]
    refine lv_lconst (v := (1 : Int64)) hx hb dL_law_1526 (by decide) ?_
    refine lv_goto (tgt := 1531) hx hb dL_law_1527 (by decide) ?_
    refine W.lcmp hx hb dL_law_1531 ?_
    rw [cmp_0]
    exact lv_if_eq (tgt := 1537) hx hb dL_law_1532 (by decide) (fun _ => lv_goto (tgt := 2642) hx hb dL_law_1537 (by decide) (kk G μ2 H locs ls h13 F hIV hW hS (lv_sub hl [2, 3, 4, 5, 6] rfl))) (fun q => absurd rfl q)
set_option maxHeartbeats 4000000 in
set_option maxRecDepth 100000 in
theorem s_collides (hlT : l.stackTraces = false) (hB : lwB p s m args meth c sb L xs i cells slots G μ H locs ls) (kk : lwK p l e s m args below meth c sb i cells slots Q) : W p l e room_1 s m args below meth c H locs cells slots Q (F0 m 1477 ls []) := by
  obtain ⟨h13, F, hIV, hW, hS, hl, hX, hsb, hin, hc1, hc2⟩ := hB
  have hx := F.1
  have hb := F.2.1
  replace hl : lv_has ls 7 [(0, .ref sb), (1, .ref (s.heap.size + 0)), (2, .ref (s.heap.size + 306)), (3, .ref (s.heap.size + 331)), (4, .int i)] := hl
  obtain ⟨x, v, μ2, hc, hd, hag, hIV2⟩ := i_collides (n := 120000) (Nat.le_refl _) hIV (xs (i + 1).toNatClampNeg)
  refine lv_aload_n hx hb dL_law_1477 rfl (lv_at hl 1 rfl) ?_
  refine l_arg (k0 := 0) (k4 := 4) (t := 1) hx hb hX hsb hS hl rfl rfl (hin 1 (by decide)) dL_law_1478 dL_law_1479 dL_law_1481 (by decide) dL_law_1482 dL_law_1483 ?_
  refine lv_aload_n hx hb dL_law_1484 rfl (lv_at hl 3 rfl) ?_
  cases x with
  | inl e9 =>
    obtain ⟨j, hj, hth⟩ := hag
    match j, hj, hth with
    | 0, hj, hth =>
      have e8 : e9 = 2 := (Option.some.inj (show some 2 = some e9 from hj)).symm
      subst e8
      exact l_call (c_L_collides_x2 hlT h13 hc) ⟨rfl, rfl⟩ q_1264 q_0 q_1265 ⟨by decide +kernel, by decide +kernel, (show (parseMethodDescriptor yL_collides.desc).map (fun d => d.parameters.length) = some 3 by decide +kernel)⟩ F q_1263 ⟨Nat.le_of_ble_eq_true rfl, Nat.le_of_ble_eq_true rfl, by omega, by omega⟩ hW hS hl.1 (Nat.le_of_ble_eq_true rfl) rfl dL_law_1485 (fun n H locs hn hW hS => W.widen (by omega) (by omega) (t_collides (gs_13.trans h13) (FX_gs F) hW hS hl hX hsb hin hc1 hc2 hd hIV2 (hth.trans (show jv (((0 : Nat) : Int) + 1) = 1 by decide)) (fun q => absurd q (by decide)) kk))
    | j + 1, hj, _ => exact absurd (show (none : Option Nat) = some e9 from hj) (fun q => nomatch q)
  | inr r =>
    obtain ⟨hth, hv⟩ := hag
    subst hv
    exact l_call (c_L_collides_ok hlT h13 hc) ⟨rfl, rfl⟩ q_1264 q_0 q_1265 ⟨by decide +kernel, by decide +kernel, (show (parseMethodDescriptor yL_collides.desc).map (fun d => d.parameters.length) = some 3 by decide +kernel)⟩ F q_1263 ⟨Nat.le_of_ble_eq_true rfl, Nat.le_of_ble_eq_true rfl, by omega, by omega⟩ hW hS hl.1 (Nat.le_of_ble_eq_true rfl) rfl dL_law_1485 (fun n H locs hn hW hS => W.widen (by omega) (by omega) (t_collides (gs_13.trans h13) (FX_gs F) hW hS hl hX hsb hin hc1 hc2 hd hIV2 (hth.trans (show jv 0 = 0 by decide)) (fun _ => hn _ rfl) kk))
set_option maxHeartbeats 4000000 in
set_option maxRecDepth 100000 in
theorem s_collisions (hlT : l.stackTraces = false) (hB : lwB p s m args meth c sb L xs i cells slots G μ H locs ls) (kk : lwK p l e s m args below meth c sb i cells slots Q) : W p l e room_1 s m args below meth c H locs cells slots Q (F0 m 1540 ls []) := by
  obtain ⟨h13, F, hIV, hW, hS, hl, hX, hsb, hin, hc1, hc2⟩ := hB
  have hx := F.1
  have hb := F.2.1
  replace hl : lv_has ls 7 [(0, .ref sb), (1, .ref (s.heap.size + 0)), (2, .ref (s.heap.size + 306)), (3, .ref (s.heap.size + 331)), (4, .int i)] := hl
  obtain ⟨v, μ2, hc, hd, hIV2⟩ := i_collisions (n := 120000) (Nat.le_refl _) hIV
  refine lv_aload_n hx hb dL_law_1540 rfl (lv_at hl 1 rfl) ?_
  refine k_X11_collisions F hc q_817 ⟨Nat.le_of_ble_eq_true rfl, Nat.le_of_ble_eq_true rfl, by omega, by omega⟩ hW hS hl.1 (Nat.le_of_ble_eq_true rfl) dL_law_1541 (fun H locs hW hS => ?_)
  refine lv_aload_n hx hb dL_law_1544 rfl (lv_at hl 2 rfl) ?_
  refine k_X12_collisions F hd q_1982 ⟨Nat.le_of_ble_eq_true rfl, Nat.le_of_ble_eq_true rfl, by omega, by omega⟩ hW hS hl.1 (Nat.le_of_ble_eq_true rfl) dL_law_1545 (fun H locs hW hS => ?_)
  exact lv_icmp_eq (tgt := 2642) hx hb dL_law_1548 (by decide) (fun _ => W.widen (by omega) (by omega) (kk G μ2 H locs ls h13 F hIV2 hW hS hl)) (fun q => absurd rfl q)
set_option maxHeartbeats 4000000 in
set_option maxRecDepth 100000 in
theorem s_wordCount (hlT : l.stackTraces = false) (hB : lwB p s m args meth c sb L xs i cells slots G μ H locs ls) (kk : lwK p l e s m args below meth c sb i cells slots Q) : W p l e room_1 s m args below meth c H locs cells slots Q (F0 m 1553 ls []) := by
  obtain ⟨h13, F, hIV, hW, hS, hl, hX, hsb, hin, hc1, hc2⟩ := hB
  have hx := F.1
  have hb := F.2.1
  replace hl : lv_has ls 7 [(0, .ref sb), (1, .ref (s.heap.size + 0)), (2, .ref (s.heap.size + 306)), (3, .ref (s.heap.size + 331)), (4, .int i)] := hl
  obtain ⟨v, μ1, μ2, hc, hd, hIV2⟩ := i_wordCount (n := 120000) (Nat.le_refl _) hIV
  refine lv_aload_n hx hb dL_law_1553 rfl (lv_at hl 1 rfl) ?_
  refine k_X11_wordCount F hc q_843 ⟨Nat.le_of_ble_eq_true rfl, Nat.le_of_ble_eq_true rfl, by omega, by omega⟩ hW hS hl.1 (Nat.le_of_ble_eq_true rfl) dL_law_1554 (fun H locs hW hS => ?_)
  refine lv_aload_n hx hb dL_law_1557 rfl (lv_at hl 2 rfl) ?_
  refine k_X12_wordCount F hd q_1986 ⟨Nat.le_of_ble_eq_true rfl, Nat.le_of_ble_eq_true rfl, by omega, by omega⟩ hW hS hl.1 (Nat.le_of_ble_eq_true rfl) dL_law_1558 (fun H locs hW hS => ?_)
  exact lv_icmp_eq (tgt := 2642) hx hb dL_law_1561 (by decide) (fun _ => W.widen (by omega) (by omega) (kk G μ2 H locs ls h13 F hIV2 hW hS hl)) (fun q => absurd rfl q)
set_option maxHeartbeats 4000000 in
set_option maxRecDepth 100000 in
theorem t_wordSections {code9 v : Int32} (h13 : G.2.2.2 13 = 1) (F : FX (fg G) s.heap.size RL cL_law 7 p s m args meth c) (hW : WH (fg G) s.heap.size μ1 H) (hS : va_S (fb s.heap.size) s.heap H locs) (hl : lv_has ls 7 [(0, .ref sb), (1, .ref (s.heap.size + 0)), (2, .ref (s.heap.size + 306)), (3, .ref (s.heap.size + 331)), (4, .int i)]) (hX : va_X sb L xs s s.heap) (hsb : sb < s.heap.size) (hin : ∀ t : Int32, t ∈ [(1 : Int32), 2, 3, 4, 5] → vp_in (i + t) L) (hc1 : cells + 4 ≤ room_1.cells) (hc2 : slots + 24 ≤ room_1.slots)
    (hd : sh_X12_wordSections 120000 (xs (i + 1).toNatClampNeg) μ1 = some (v, μ2)) (hIV : IV μ2) (hth : μ2.1 306 0 = code9) (hval : code9 = 0 → Int64.ofNat (G.2.2.2 14) = v.toInt64) (kk : lwK p l e s m args below meth c sb i cells slots Q) : W p l e room_1 s m args below meth c H locs (cells + 4) (slots + 24) Q (F0 m 1577 ls [.int code9]) := by
  have hx := F.1
  have hb := F.2.1
  refine lv_istore (lv' := [(5, .int code9), (0, .ref sb), (1, .ref (s.heap.size + 0)), (2, .ref (s.heap.size + 306)), (3, .ref (s.heap.size + 331)), (4, .int i)]) hx hb dL_law_1577 hl (by decide) rfl (fun ls hl => ?_)
  refine lv_aload_n hx hb dL_law_1579 rfl (lv_at hl 3 rfl) ?_
  refine l_arg (k0 := 1) (k4 := 5) (t := 1) hx hb hX hsb hS hl rfl rfl (hin 1 (by decide)) dL_law_1580 dL_law_1581 dL_law_1583 (by decide) dL_law_1584 dL_law_1585 ?_
  refine k_X12_wordSections F hd q_2006 ⟨Nat.le_of_ble_eq_true rfl, Nat.le_of_ble_eq_true rfl, by omega, by omega⟩ hW hS hl.1 (Nat.le_of_ble_eq_true rfl) dL_law_1586 (fun H locs hW hS => ?_)
  refine lv_istore (lv' := [(6, .int v), (5, .int code9), (0, .ref sb), (1, .ref (s.heap.size + 0)), (2, .ref (s.heap.size + 306)), (3, .ref (s.heap.size + 331)), (4, .int i)]) hx hb dL_law_1589 hl (by decide) rfl (fun ls hl => ?_)
  refine lv_aload_n hx hb dL_law_1591 rfl (lv_at hl 4 rfl) ?_
  refine k_X12_thrown F (show sh_X12_thrown μ2 = some code9 from congrArg some hth) q_1457 ⟨Nat.le_of_ble_eq_true rfl, Nat.le_of_ble_eq_true rfl, by omega, by omega⟩ hW hS hl.1 (Nat.le_of_ble_eq_true rfl) dL_law_1592 (fun H locs hW hS => ?_)
  refine lv_iload hx hb dL_law_1595 (lv_at hl 1 rfl) ?_
  refine lv_icmp_eq (tgt := 1602) hx hb dL_law_1597 (by decide) (fun _ => ?_) (fun q => absurd rfl q)
  refine lv_iload hx hb dL_law_1602 (lv_at hl 1 rfl) ?_
  refine lv_if_ne (tgt := 1619) hx hb dL_law_1604 (by decide) (fun _ => lv_goto (tgt := 2642) hx hb dL_law_1619 (by decide) (kk G μ2 H locs ls h13 F hIV hW hS (lv_sub hl [2, 3, 4, 5, 6] rfl))) (fun h0 => ?_)
  refine lv_aload_n hx hb dL_law_1607 rfl (lv_at hl 5 rfl) ?_
  refine lv_iconst (v := (0 : Int32)) hx hb dL_law_1608 (by decide) ?_
  refine l_out h13 F hW dL_law_1609 ?_
  rw [hval h0]
  refine lv_iload hx hb dL_law_1610 (lv_at hl 0 rfl) ?_
  refine lv_i2l hx hb dL_law_1612 rfl ?_
  refine W.lcmp hx hb dL_law_1613 ?_
  rw [cmp_0]
  exact lv_if_eq (tgt := 1619) hx hb dL_law_1614 (by decide) (fun _ => lv_goto (tgt := 2642) hx hb dL_law_1619 (by decide) (kk G μ2 H locs ls h13 F hIV hW hS (lv_sub hl [2, 3, 4, 5, 6] rfl))) (fun q => absurd rfl q)
set_option maxHeartbeats 4000000 in
set_option maxRecDepth 100000 in
theorem s_wordSections (hlT : l.stackTraces = false) (hB : lwB p s m args meth c sb L xs i cells slots G μ H locs ls) (kk : lwK p l e s m args below meth c sb i cells slots Q) : W p l e room_1 s m args below meth c H locs cells slots Q (F0 m 1566 ls []) := by
  obtain ⟨h13, F, hIV, hW, hS, hl, hX, hsb, hin, hc1, hc2⟩ := hB
  have hx := F.1
  have hb := F.2.1
  replace hl : lv_has ls 7 [(0, .ref sb), (1, .ref (s.heap.size + 0)), (2, .ref (s.heap.size + 306)), (3, .ref (s.heap.size + 331)), (4, .int i)] := hl
  obtain ⟨x, μ1, v, μ2, hc, hd, hag, hIV2⟩ := i_wordSections (n := 120000) (Nat.le_refl _) hIV (xs (i + 1).toNatClampNeg)
  refine lv_aload_n hx hb dL_law_1566 rfl (lv_at hl 1 rfl) ?_
  refine l_arg (k0 := 0) (k4 := 4) (t := 1) hx hb hX hsb hS hl rfl rfl (hin 1 (by decide)) dL_law_1567 dL_law_1568 dL_law_1570 (by decide) dL_law_1571 dL_law_1572 ?_
  refine lv_aload_n hx hb dL_law_1573 rfl (lv_at hl 3 rfl) ?_
  cases x with
  | inl e9 =>
    obtain ⟨j, hj, hth⟩ := hag
    match j, hj, hth with
    | 0, hj, hth =>
      have e8 : e9 = 2 := (Option.some.inj (show some 2 = some e9 from hj)).symm
      subst e8
      exact l_call (c_L_wordSections_x2 hlT h13 hc) ⟨rfl, rfl⟩ q_1271 q_0 q_1272 ⟨by decide +kernel, by decide +kernel, (show (parseMethodDescriptor yL_wordSections.desc).map (fun d => d.parameters.length) = some 3 by decide +kernel)⟩ F q_1270 ⟨Nat.le_of_ble_eq_true rfl, Nat.le_of_ble_eq_true rfl, by omega, by omega⟩ hW hS hl.1 (Nat.le_of_ble_eq_true rfl) rfl dL_law_1574 (fun n H locs hn hW hS => W.widen (by omega) (by omega) (t_wordSections (gs_13.trans h13) (FX_gs F) hW hS hl hX hsb hin hc1 hc2 hd hIV2 (hth.trans (show jv (((0 : Nat) : Int) + 1) = 1 by decide)) (fun q => absurd q (by decide)) kk))
    | j + 1, hj, _ => exact absurd (show (none : Option Nat) = some e9 from hj) (fun q => nomatch q)
  | inr r =>
    obtain ⟨hth, hv⟩ := hag
    subst hv
    exact l_call (c_L_wordSections_ok hlT h13 hc) ⟨rfl, rfl⟩ q_1271 q_0 q_1272 ⟨by decide +kernel, by decide +kernel, (show (parseMethodDescriptor yL_wordSections.desc).map (fun d => d.parameters.length) = some 3 by decide +kernel)⟩ F q_1270 ⟨Nat.le_of_ble_eq_true rfl, Nat.le_of_ble_eq_true rfl, by omega, by omega⟩ hW hS hl.1 (Nat.le_of_ble_eq_true rfl) rfl dL_law_1574 (fun n H locs hn hW hS => W.widen (by omega) (by omega) (t_wordSections (gs_13.trans h13) (FX_gs F) hW hS hl hX hsb hin hc1 hc2 hd hIV2 (hth.trans (show jv 0 = 0 by decide)) (fun _ => hn _ rfl) kk))
set_option maxHeartbeats 4000000 in
set_option maxRecDepth 100000 in
theorem s_findWord (hlT : l.stackTraces = false) (hB : lwB p s m args meth c sb L xs i cells slots G μ H locs ls) (kk : lwK p l e s m args below meth c sb i cells slots Q) : W p l e room_1 s m args below meth c H locs cells slots Q (F0 m 1622 ls []) := by
  obtain ⟨h13, F, hIV, hW, hS, hl, hX, hsb, hin, hc1, hc2⟩ := hB
  have hx := F.1
  have hb := F.2.1
  replace hl : lv_has ls 7 [(0, .ref sb), (1, .ref (s.heap.size + 0)), (2, .ref (s.heap.size + 306)), (3, .ref (s.heap.size + 331)), (4, .int i)] := hl
  obtain ⟨v, μ1, μ2, hc, hd, hIV2⟩ := i_findWord (n := 120000) (Nat.le_refl _) hIV
  refine lv_aload_n hx hb dL_law_1622 rfl (lv_at hl 1 rfl) ?_
  refine k_X11_findWord F hc q_861 ⟨Nat.le_of_ble_eq_true rfl, Nat.le_of_ble_eq_true rfl, by omega, by omega⟩ hW hS hl.1 (Nat.le_of_ble_eq_true rfl) dL_law_1623 (fun H locs hW hS => ?_)
  refine lv_aload_n hx hb dL_law_1626 rfl (lv_at hl 2 rfl) ?_
  refine k_X12_findWord F hd q_2010 ⟨Nat.le_of_ble_eq_true rfl, Nat.le_of_ble_eq_true rfl, by omega, by omega⟩ hW hS hl.1 (Nat.le_of_ble_eq_true rfl) dL_law_1627 (fun H locs hW hS => ?_)
  exact lv_icmp_eq (tgt := 2642) hx hb dL_law_1630 (by decide) (fun _ => W.widen (by omega) (by omega) (kk G μ2 H locs ls h13 F hIV2 hW hS hl)) (fun q => absurd rfl q)
set_option maxHeartbeats 4000000 in
set_option maxRecDepth 100000 in
theorem t_setLength {code9 v : Int32} (h13 : G.2.2.2 13 = 1) (F : FX (fg G) s.heap.size RL cL_law 7 p s m args meth c) (hW : WH (fg G) s.heap.size μ1 H) (hS : va_S (fb s.heap.size) s.heap H locs) (hl : lv_has ls 7 [(0, .ref sb), (1, .ref (s.heap.size + 0)), (2, .ref (s.heap.size + 306)), (3, .ref (s.heap.size + 331)), (4, .int i)]) (hX : va_X sb L xs s s.heap) (hsb : sb < s.heap.size) (hin : ∀ t : Int32, t ∈ [(1 : Int32), 2, 3, 4, 5] → vp_in (i + t) L) (hc1 : cells + 4 ≤ room_1.cells) (hc2 : slots + 24 ≤ room_1.slots)
    (hd : sh_X12_setLength 120000 (xs (i + 1).toNatClampNeg) (xs (i + 2).toNatClampNeg) μ1 = some (v, μ2)) (hIV : IV μ2) (hth : μ2.1 306 0 = code9) (hval : code9 = 0 → Int64.ofNat (G.2.2.2 14) = v.toInt64) (kk : lwK p l e s m args below meth c sb i cells slots Q) : W p l e room_1 s m args below meth c H locs (cells + 4) (slots + 24) Q (F0 m 1652 ls [.int code9]) := by
  have hx := F.1
  have hb := F.2.1
  refine lv_istore (lv' := [(5, .int code9), (0, .ref sb), (1, .ref (s.heap.size + 0)), (2, .ref (s.heap.size + 306)), (3, .ref (s.heap.size + 331)), (4, .int i)]) hx hb dL_law_1652 hl (by decide) rfl (fun ls hl => ?_)
  refine lv_aload_n hx hb dL_law_1654 rfl (lv_at hl 3 rfl) ?_
  refine l_arg (k0 := 1) (k4 := 5) (t := 1) hx hb hX hsb hS hl rfl rfl (hin 1 (by decide)) dL_law_1655 dL_law_1656 dL_law_1658 (by decide) dL_law_1659 dL_law_1660 ?_
  refine l_arg (k0 := 1) (k4 := 5) (t := 2) hx hb hX hsb hS hl rfl rfl (hin 2 (by decide)) dL_law_1661 dL_law_1662 dL_law_1664 (by decide) dL_law_1665 dL_law_1666 ?_
  refine k_X12_setLength F hd q_2018 ⟨Nat.le_of_ble_eq_true rfl, Nat.le_of_ble_eq_true rfl, by omega, by omega⟩ hW hS hl.1 (Nat.le_of_ble_eq_true rfl) dL_law_1667 (fun H locs hW hS => ?_)
  refine lv_istore (lv' := [(6, .int v), (5, .int code9), (0, .ref sb), (1, .ref (s.heap.size + 0)), (2, .ref (s.heap.size + 306)), (3, .ref (s.heap.size + 331)), (4, .int i)]) hx hb dL_law_1670 hl (by decide) rfl (fun ls hl => ?_)
  refine lv_aload_n hx hb dL_law_1672 rfl (lv_at hl 4 rfl) ?_
  refine k_X12_thrown F (show sh_X12_thrown μ2 = some code9 from congrArg some hth) q_1457 ⟨Nat.le_of_ble_eq_true rfl, Nat.le_of_ble_eq_true rfl, by omega, by omega⟩ hW hS hl.1 (Nat.le_of_ble_eq_true rfl) dL_law_1673 (fun H locs hW hS => ?_)
  refine lv_iload hx hb dL_law_1676 (lv_at hl 1 rfl) ?_
  refine lv_icmp_eq (tgt := 1683) hx hb dL_law_1678 (by decide) (fun _ => ?_) (fun q => absurd rfl q)
  refine lv_iload hx hb dL_law_1683 (lv_at hl 1 rfl) ?_
  refine lv_if_ne (tgt := 1700) hx hb dL_law_1685 (by decide) (fun _ => lv_goto (tgt := 2642) hx hb dL_law_1700 (by decide) (kk G μ2 H locs ls h13 F hIV hW hS (lv_sub hl [2, 3, 4, 5, 6] rfl))) (fun h0 => ?_)
  refine lv_aload_n hx hb dL_law_1688 rfl (lv_at hl 5 rfl) ?_
  refine lv_iconst (v := (0 : Int32)) hx hb dL_law_1689 (by decide) ?_
  refine l_out h13 F hW dL_law_1690 ?_
  rw [hval h0]
  refine lv_iload hx hb dL_law_1691 (lv_at hl 0 rfl) ?_
  refine lv_i2l hx hb dL_law_1693 rfl ?_
  refine W.lcmp hx hb dL_law_1694 ?_
  rw [cmp_0]
  exact lv_if_eq (tgt := 1700) hx hb dL_law_1695 (by decide) (fun _ => lv_goto (tgt := 2642) hx hb dL_law_1700 (by decide) (kk G μ2 H locs ls h13 F hIV hW hS (lv_sub hl [2, 3, 4, 5, 6] rfl))) (fun q => absurd rfl q)
set_option maxHeartbeats 4000000 in
set_option maxRecDepth 100000 in
theorem s_setLength (hlT : l.stackTraces = false) (hB : lwB p s m args meth c sb L xs i cells slots G μ H locs ls) (kk : lwK p l e s m args below meth c sb i cells slots Q) : W p l e room_1 s m args below meth c H locs cells slots Q (F0 m 1635 ls []) := by
  obtain ⟨h13, F, hIV, hW, hS, hl, hX, hsb, hin, hc1, hc2⟩ := hB
  have hx := F.1
  have hb := F.2.1
  replace hl : lv_has ls 7 [(0, .ref sb), (1, .ref (s.heap.size + 0)), (2, .ref (s.heap.size + 306)), (3, .ref (s.heap.size + 331)), (4, .int i)] := hl
  obtain ⟨x, μ1, v, μ2, hc, hd, hag, hIV2⟩ := i_setLength (n := 120000) (Nat.le_refl _) hIV (xs (i + 1).toNatClampNeg) (xs (i + 2).toNatClampNeg)
  refine lv_aload_n hx hb dL_law_1635 rfl (lv_at hl 1 rfl) ?_
  refine l_arg (k0 := 0) (k4 := 4) (t := 1) hx hb hX hsb hS hl rfl rfl (hin 1 (by decide)) dL_law_1636 dL_law_1637 dL_law_1639 (by decide) dL_law_1640 dL_law_1641 ?_
  refine l_arg (k0 := 0) (k4 := 4) (t := 2) hx hb hX hsb hS hl rfl rfl (hin 2 (by decide)) dL_law_1642 dL_law_1643 dL_law_1645 (by decide) dL_law_1646 dL_law_1647 ?_
  refine lv_aload_n hx hb dL_law_1648 rfl (lv_at hl 3 rfl) ?_
  cases x with
  | inl e9 =>
    obtain ⟨j, hj, hth⟩ := hag
    match j, hj, hth with
    | 0, hj, hth =>
      have e8 : e9 = 2 := (Option.some.inj (show some 2 = some e9 from hj)).symm
      subst e8
      exact l_call (c_L_setLength_x2 hlT h13 hc) ⟨rfl, rfl⟩ q_1279 q_0 q_1280 ⟨by decide +kernel, by decide +kernel, (show (parseMethodDescriptor yL_setLength.desc).map (fun d => d.parameters.length) = some 4 by decide +kernel)⟩ F q_1278 ⟨Nat.le_of_ble_eq_true rfl, Nat.le_of_ble_eq_true rfl, by omega, by omega⟩ hW hS hl.1 (Nat.le_of_ble_eq_true rfl) rfl dL_law_1649 (fun n H locs hn hW hS => W.widen (by omega) (by omega) (t_setLength (gs_13.trans h13) (FX_gs F) hW hS hl hX hsb hin hc1 hc2 hd hIV2 (hth.trans (show jv (((0 : Nat) : Int) + 1) = 1 by decide)) (fun q => absurd q (by decide)) kk))
    | 1, hj, hth =>
      have e8 : e9 = 1 := (Option.some.inj (show some 1 = some e9 from hj)).symm
      subst e8
      exact l_call (c_L_setLength_x1 hlT h13 hc) ⟨rfl, rfl⟩ q_1279 q_0 q_1280 ⟨by decide +kernel, by decide +kernel, (show (parseMethodDescriptor yL_setLength.desc).map (fun d => d.parameters.length) = some 4 by decide +kernel)⟩ F q_1278 ⟨Nat.le_of_ble_eq_true rfl, Nat.le_of_ble_eq_true rfl, by omega, by omega⟩ hW hS hl.1 (Nat.le_of_ble_eq_true rfl) rfl dL_law_1649 (fun n H locs hn hW hS => W.widen (by omega) (by omega) (t_setLength (gs_13.trans h13) (FX_gs F) hW hS hl hX hsb hin hc1 hc2 hd hIV2 (hth.trans (show jv (((1 : Nat) : Int) + 1) = 2 by decide)) (fun q => absurd q (by decide)) kk))
    | j + 2, hj, _ => exact absurd (show (none : Option Nat) = some e9 from hj) (fun q => nomatch q)
  | inr r =>
    obtain ⟨hth, hv⟩ := hag
    subst hv
    exact l_call (c_L_setLength_ok hlT h13 hc) ⟨rfl, rfl⟩ q_1279 q_0 q_1280 ⟨by decide +kernel, by decide +kernel, (show (parseMethodDescriptor yL_setLength.desc).map (fun d => d.parameters.length) = some 4 by decide +kernel)⟩ F q_1278 ⟨Nat.le_of_ble_eq_true rfl, Nat.le_of_ble_eq_true rfl, by omega, by omega⟩ hW hS hl.1 (Nat.le_of_ble_eq_true rfl) rfl dL_law_1649 (fun n H locs hn hW hS => W.widen (by omega) (by omega) (t_setLength (gs_13.trans h13) (FX_gs F) hW hS hl hX hsb hin hc1 hc2 hd hIV2 (hth.trans (show jv 0 = 0 by decide)) (fun _ => hn _ rfl) kk))
set_option maxHeartbeats 4000000 in
set_option maxRecDepth 100000 in
theorem t_setLevel {code9 v : Int32} (h13 : G.2.2.2 13 = 1) (F : FX (fg G) s.heap.size RL cL_law 7 p s m args meth c) (hW : WH (fg G) s.heap.size μ1 H) (hS : va_S (fb s.heap.size) s.heap H locs) (hl : lv_has ls 7 [(0, .ref sb), (1, .ref (s.heap.size + 0)), (2, .ref (s.heap.size + 306)), (3, .ref (s.heap.size + 331)), (4, .int i)]) (hX : va_X sb L xs s s.heap) (hsb : sb < s.heap.size) (hin : ∀ t : Int32, t ∈ [(1 : Int32), 2, 3, 4, 5] → vp_in (i + t) L) (hc1 : cells + 4 ≤ room_1.cells) (hc2 : slots + 24 ≤ room_1.slots)
    (hd : sh_X12_setLevel 120000 (xs (i + 1).toNatClampNeg) (xs (i + 2).toNatClampNeg) μ1 = some (v, μ2)) (hIV : IV μ2) (hth : μ2.1 306 0 = code9) (hval : code9 = 0 → Int64.ofNat (G.2.2.2 14) = v.toInt64) (kk : lwK p l e s m args below meth c sb i cells slots Q) : W p l e room_1 s m args below meth c H locs (cells + 4) (slots + 24) Q (F0 m 1720 ls [.int code9]) := by
  have hx := F.1
  have hb := F.2.1
  refine lv_istore (lv' := [(5, .int code9), (0, .ref sb), (1, .ref (s.heap.size + 0)), (2, .ref (s.heap.size + 306)), (3, .ref (s.heap.size + 331)), (4, .int i)]) hx hb dL_law_1720 hl (by decide) rfl (fun ls hl => ?_)
  refine lv_aload_n hx hb dL_law_1722 rfl (lv_at hl 3 rfl) ?_
  refine l_arg (k0 := 1) (k4 := 5) (t := 1) hx hb hX hsb hS hl rfl rfl (hin 1 (by decide)) dL_law_1723 dL_law_1724 dL_law_1726 (by decide) dL_law_1727 dL_law_1728 ?_
  refine l_arg (k0 := 1) (k4 := 5) (t := 2) hx hb hX hsb hS hl rfl rfl (hin 2 (by decide)) dL_law_1729 dL_law_1730 dL_law_1732 (by decide) dL_law_1733 dL_law_1734 ?_
  refine k_X12_setLevel F hd q_2023 ⟨Nat.le_of_ble_eq_true rfl, Nat.le_of_ble_eq_true rfl, by omega, by omega⟩ hW hS hl.1 (Nat.le_of_ble_eq_true rfl) dL_law_1735 (fun H locs hW hS => ?_)
  refine lv_istore (lv' := [(6, .int v), (5, .int code9), (0, .ref sb), (1, .ref (s.heap.size + 0)), (2, .ref (s.heap.size + 306)), (3, .ref (s.heap.size + 331)), (4, .int i)]) hx hb dL_law_1738 hl (by decide) rfl (fun ls hl => ?_)
  refine lv_aload_n hx hb dL_law_1740 rfl (lv_at hl 4 rfl) ?_
  refine k_X12_thrown F (show sh_X12_thrown μ2 = some code9 from congrArg some hth) q_1457 ⟨Nat.le_of_ble_eq_true rfl, Nat.le_of_ble_eq_true rfl, by omega, by omega⟩ hW hS hl.1 (Nat.le_of_ble_eq_true rfl) dL_law_1741 (fun H locs hW hS => ?_)
  refine lv_iload hx hb dL_law_1744 (lv_at hl 1 rfl) ?_
  refine lv_icmp_eq (tgt := 1751) hx hb dL_law_1746 (by decide) (fun _ => ?_) (fun q => absurd rfl q)
  refine lv_iload hx hb dL_law_1751 (lv_at hl 1 rfl) ?_
  refine lv_if_ne (tgt := 1768) hx hb dL_law_1753 (by decide) (fun _ => lv_goto (tgt := 2642) hx hb dL_law_1768 (by decide) (kk G μ2 H locs ls h13 F hIV hW hS (lv_sub hl [2, 3, 4, 5, 6] rfl))) (fun h0 => ?_)
  refine lv_aload_n hx hb dL_law_1756 rfl (lv_at hl 5 rfl) ?_
  refine lv_iconst (v := (0 : Int32)) hx hb dL_law_1757 (by decide) ?_
  refine l_out h13 F hW dL_law_1758 ?_
  rw [hval h0]
  refine lv_iload hx hb dL_law_1759 (lv_at hl 0 rfl) ?_
  refine lv_i2l hx hb dL_law_1761 rfl ?_
  refine W.lcmp hx hb dL_law_1762 ?_
  rw [cmp_0]
  exact lv_if_eq (tgt := 1768) hx hb dL_law_1763 (by decide) (fun _ => lv_goto (tgt := 2642) hx hb dL_law_1768 (by decide) (kk G μ2 H locs ls h13 F hIV hW hS (lv_sub hl [2, 3, 4, 5, 6] rfl))) (fun q => absurd rfl q)
set_option maxHeartbeats 4000000 in
set_option maxRecDepth 100000 in
theorem s_setLevel (hlT : l.stackTraces = false) (hB : lwB p s m args meth c sb L xs i cells slots G μ H locs ls) (kk : lwK p l e s m args below meth c sb i cells slots Q) : W p l e room_1 s m args below meth c H locs cells slots Q (F0 m 1703 ls []) := by
  obtain ⟨h13, F, hIV, hW, hS, hl, hX, hsb, hin, hc1, hc2⟩ := hB
  have hx := F.1
  have hb := F.2.1
  replace hl : lv_has ls 7 [(0, .ref sb), (1, .ref (s.heap.size + 0)), (2, .ref (s.heap.size + 306)), (3, .ref (s.heap.size + 331)), (4, .int i)] := hl
  obtain ⟨x, μ1, v, μ2, hc, hd, hag, hIV2⟩ := i_setLevel (n := 120000) (Nat.le_refl _) hIV (xs (i + 1).toNatClampNeg) (xs (i + 2).toNatClampNeg)
  refine lv_aload_n hx hb dL_law_1703 rfl (lv_at hl 1 rfl) ?_
  refine l_arg (k0 := 0) (k4 := 4) (t := 1) hx hb hX hsb hS hl rfl rfl (hin 1 (by decide)) dL_law_1704 dL_law_1705 dL_law_1707 (by decide) dL_law_1708 dL_law_1709 ?_
  refine l_arg (k0 := 0) (k4 := 4) (t := 2) hx hb hX hsb hS hl rfl rfl (hin 2 (by decide)) dL_law_1710 dL_law_1711 dL_law_1713 (by decide) dL_law_1714 dL_law_1715 ?_
  refine lv_aload_n hx hb dL_law_1716 rfl (lv_at hl 3 rfl) ?_
  cases x with
  | inl e9 =>
    obtain ⟨j, hj, hth⟩ := hag
    match j, hj, hth with
    | 0, hj, hth =>
      have e8 : e9 = 2 := (Option.some.inj (show some 2 = some e9 from hj)).symm
      subst e8
      exact l_call (c_L_setLevel_x2 hlT h13 hc) ⟨rfl, rfl⟩ q_1291 q_0 q_1292 ⟨by decide +kernel, by decide +kernel, (show (parseMethodDescriptor yL_setLevel.desc).map (fun d => d.parameters.length) = some 4 by decide +kernel)⟩ F q_1290 ⟨Nat.le_of_ble_eq_true rfl, Nat.le_of_ble_eq_true rfl, by omega, by omega⟩ hW hS hl.1 (Nat.le_of_ble_eq_true rfl) rfl dL_law_1717 (fun n H locs hn hW hS => W.widen (by omega) (by omega) (t_setLevel (gs_13.trans h13) (FX_gs F) hW hS hl hX hsb hin hc1 hc2 hd hIV2 (hth.trans (show jv (((0 : Nat) : Int) + 1) = 1 by decide)) (fun q => absurd q (by decide)) kk))
    | 1, hj, hth =>
      have e8 : e9 = 1 := (Option.some.inj (show some 1 = some e9 from hj)).symm
      subst e8
      exact l_call (c_L_setLevel_x1 hlT h13 hc) ⟨rfl, rfl⟩ q_1291 q_0 q_1292 ⟨by decide +kernel, by decide +kernel, (show (parseMethodDescriptor yL_setLevel.desc).map (fun d => d.parameters.length) = some 4 by decide +kernel)⟩ F q_1290 ⟨Nat.le_of_ble_eq_true rfl, Nat.le_of_ble_eq_true rfl, by omega, by omega⟩ hW hS hl.1 (Nat.le_of_ble_eq_true rfl) rfl dL_law_1717 (fun n H locs hn hW hS => W.widen (by omega) (by omega) (t_setLevel (gs_13.trans h13) (FX_gs F) hW hS hl hX hsb hin hc1 hc2 hd hIV2 (hth.trans (show jv (((1 : Nat) : Int) + 1) = 2 by decide)) (fun q => absurd q (by decide)) kk))
    | j + 2, hj, _ => exact absurd (show (none : Option Nat) = some e9 from hj) (fun q => nomatch q)
  | inr r =>
    obtain ⟨hth, hv⟩ := hag
    subst hv
    exact l_call (c_L_setLevel_ok hlT h13 hc) ⟨rfl, rfl⟩ q_1291 q_0 q_1292 ⟨by decide +kernel, by decide +kernel, (show (parseMethodDescriptor yL_setLevel.desc).map (fun d => d.parameters.length) = some 4 by decide +kernel)⟩ F q_1290 ⟨Nat.le_of_ble_eq_true rfl, Nat.le_of_ble_eq_true rfl, by omega, by omega⟩ hW hS hl.1 (Nat.le_of_ble_eq_true rfl) rfl dL_law_1717 (fun n H locs hn hW hS => W.widen (by omega) (by omega) (t_setLevel (gs_13.trans h13) (FX_gs F) hW hS hl hX hsb hin hc1 hc2 hd hIV2 (hth.trans (show jv 0 = 0 by decide)) (fun _ => hn _ rfl) kk))
set_option maxHeartbeats 4000000 in
set_option maxRecDepth 100000 in
theorem t_setTitle {code9 v : Int32} (h13 : G.2.2.2 13 = 1) (F : FX (fg G) s.heap.size RL cL_law 7 p s m args meth c) (hW : WH (fg G) s.heap.size μ1 H) (hS : va_S (fb s.heap.size) s.heap H locs) (hl : lv_has ls 7 [(0, .ref sb), (1, .ref (s.heap.size + 0)), (2, .ref (s.heap.size + 306)), (3, .ref (s.heap.size + 331)), (4, .int i)]) (hX : va_X sb L xs s s.heap) (hsb : sb < s.heap.size) (hin : ∀ t : Int32, t ∈ [(1 : Int32), 2, 3, 4, 5] → vp_in (i + t) L) (hc1 : cells + 4 ≤ room_1.cells) (hc2 : slots + 24 ≤ room_1.slots)
    (hd : sh_X12_setTitle 120000 (xs (i + 1).toNatClampNeg) μ1 = some (v, μ2)) (hIV : IV μ2) (hth : μ2.1 306 0 = code9) (hval : code9 = 0 → Int64.ofNat (G.2.2.2 14) = v.toInt64) (kk : lwK p l e s m args below meth c sb i cells slots Q) : W p l e room_1 s m args below meth c H locs (cells + 4) (slots + 24) Q (F0 m 1782 ls [.int code9]) := by
  have hx := F.1
  have hb := F.2.1
  refine lv_istore (lv' := [(5, .int code9), (0, .ref sb), (1, .ref (s.heap.size + 0)), (2, .ref (s.heap.size + 306)), (3, .ref (s.heap.size + 331)), (4, .int i)]) hx hb dL_law_1782 hl (by decide) rfl (fun ls hl => ?_)
  refine lv_aload_n hx hb dL_law_1784 rfl (lv_at hl 3 rfl) ?_
  refine l_arg (k0 := 1) (k4 := 5) (t := 1) hx hb hX hsb hS hl rfl rfl (hin 1 (by decide)) dL_law_1785 dL_law_1786 dL_law_1788 (by decide) dL_law_1789 dL_law_1790 ?_
  refine k_X12_setTitle F hd q_2031 ⟨Nat.le_of_ble_eq_true rfl, Nat.le_of_ble_eq_true rfl, by omega, by omega⟩ hW hS hl.1 (Nat.le_of_ble_eq_true rfl) dL_law_1791 (fun H locs hW hS => ?_)
  refine lv_istore (lv' := [(6, .int v), (5, .int code9), (0, .ref sb), (1, .ref (s.heap.size + 0)), (2, .ref (s.heap.size + 306)), (3, .ref (s.heap.size + 331)), (4, .int i)]) hx hb dL_law_1794 hl (by decide) rfl (fun ls hl => ?_)
  refine lv_aload_n hx hb dL_law_1796 rfl (lv_at hl 4 rfl) ?_
  refine k_X12_thrown F (show sh_X12_thrown μ2 = some code9 from congrArg some hth) q_1457 ⟨Nat.le_of_ble_eq_true rfl, Nat.le_of_ble_eq_true rfl, by omega, by omega⟩ hW hS hl.1 (Nat.le_of_ble_eq_true rfl) dL_law_1797 (fun H locs hW hS => ?_)
  refine lv_iload hx hb dL_law_1800 (lv_at hl 1 rfl) ?_
  refine lv_icmp_eq (tgt := 1807) hx hb dL_law_1802 (by decide) (fun _ => ?_) (fun q => absurd rfl q)
  refine lv_iload hx hb dL_law_1807 (lv_at hl 1 rfl) ?_
  refine lv_if_ne (tgt := 1824) hx hb dL_law_1809 (by decide) (fun _ => lv_goto (tgt := 2642) hx hb dL_law_1824 (by decide) (kk G μ2 H locs ls h13 F hIV hW hS (lv_sub hl [2, 3, 4, 5, 6] rfl))) (fun h0 => ?_)
  refine lv_aload_n hx hb dL_law_1812 rfl (lv_at hl 5 rfl) ?_
  refine lv_iconst (v := (0 : Int32)) hx hb dL_law_1813 (by decide) ?_
  refine l_out h13 F hW dL_law_1814 ?_
  rw [hval h0]
  refine lv_iload hx hb dL_law_1815 (lv_at hl 0 rfl) ?_
  refine lv_i2l hx hb dL_law_1817 rfl ?_
  refine W.lcmp hx hb dL_law_1818 ?_
  rw [cmp_0]
  exact lv_if_eq (tgt := 1824) hx hb dL_law_1819 (by decide) (fun _ => lv_goto (tgt := 2642) hx hb dL_law_1824 (by decide) (kk G μ2 H locs ls h13 F hIV hW hS (lv_sub hl [2, 3, 4, 5, 6] rfl))) (fun q => absurd rfl q)
set_option maxHeartbeats 4000000 in
set_option maxRecDepth 100000 in
theorem s_setTitle (hlT : l.stackTraces = false) (hB : lwB p s m args meth c sb L xs i cells slots G μ H locs ls) (kk : lwK p l e s m args below meth c sb i cells slots Q) : W p l e room_1 s m args below meth c H locs cells slots Q (F0 m 1771 ls []) := by
  obtain ⟨h13, F, hIV, hW, hS, hl, hX, hsb, hin, hc1, hc2⟩ := hB
  have hx := F.1
  have hb := F.2.1
  replace hl : lv_has ls 7 [(0, .ref sb), (1, .ref (s.heap.size + 0)), (2, .ref (s.heap.size + 306)), (3, .ref (s.heap.size + 331)), (4, .int i)] := hl
  obtain ⟨x, μ1, v, μ2, hc, hd, hag, hIV2⟩ := i_setTitle (n := 120000) (Nat.le_refl _) hIV (xs (i + 1).toNatClampNeg)
  refine lv_aload_n hx hb dL_law_1771 rfl (lv_at hl 1 rfl) ?_
  refine l_arg (k0 := 0) (k4 := 4) (t := 1) hx hb hX hsb hS hl rfl rfl (hin 1 (by decide)) dL_law_1772 dL_law_1773 dL_law_1775 (by decide) dL_law_1776 dL_law_1777 ?_
  refine lv_aload_n hx hb dL_law_1778 rfl (lv_at hl 3 rfl) ?_
  cases x with
  | inl e9 =>
    obtain ⟨j, hj, hth⟩ := hag
    match j, hj, hth with
    | 0, hj, hth =>
      have e8 : e9 = 2 := (Option.some.inj (show some 2 = some e9 from hj)).symm
      subst e8
      exact l_call (c_L_setTitle_x2 hlT h13 hc) ⟨rfl, rfl⟩ q_1310 q_0 q_1311 ⟨by decide +kernel, by decide +kernel, (show (parseMethodDescriptor yL_setTitle.desc).map (fun d => d.parameters.length) = some 3 by decide +kernel)⟩ F q_1309 ⟨Nat.le_of_ble_eq_true rfl, Nat.le_of_ble_eq_true rfl, by omega, by omega⟩ hW hS hl.1 (Nat.le_of_ble_eq_true rfl) rfl dL_law_1779 (fun n H locs hn hW hS => W.widen (by omega) (by omega) (t_setTitle (gs_13.trans h13) (FX_gs F) hW hS hl hX hsb hin hc1 hc2 hd hIV2 (hth.trans (show jv (((0 : Nat) : Int) + 1) = 1 by decide)) (fun q => absurd q (by decide)) kk))
    | 1, hj, hth =>
      have e8 : e9 = 1 := (Option.some.inj (show some 1 = some e9 from hj)).symm
      subst e8
      exact l_call (c_L_setTitle_x1 hlT h13 hc) ⟨rfl, rfl⟩ q_1310 q_0 q_1311 ⟨by decide +kernel, by decide +kernel, (show (parseMethodDescriptor yL_setTitle.desc).map (fun d => d.parameters.length) = some 3 by decide +kernel)⟩ F q_1309 ⟨Nat.le_of_ble_eq_true rfl, Nat.le_of_ble_eq_true rfl, by omega, by omega⟩ hW hS hl.1 (Nat.le_of_ble_eq_true rfl) rfl dL_law_1779 (fun n H locs hn hW hS => W.widen (by omega) (by omega) (t_setTitle (gs_13.trans h13) (FX_gs F) hW hS hl hX hsb hin hc1 hc2 hd hIV2 (hth.trans (show jv (((1 : Nat) : Int) + 1) = 2 by decide)) (fun q => absurd q (by decide)) kk))
    | j + 2, hj, _ => exact absurd (show (none : Option Nat) = some e9 from hj) (fun q => nomatch q)
  | inr r =>
    obtain ⟨hth, hv⟩ := hag
    subst hv
    exact l_call (c_L_setTitle_ok hlT h13 hc) ⟨rfl, rfl⟩ q_1310 q_0 q_1311 ⟨by decide +kernel, by decide +kernel, (show (parseMethodDescriptor yL_setTitle.desc).map (fun d => d.parameters.length) = some 3 by decide +kernel)⟩ F q_1309 ⟨Nat.le_of_ble_eq_true rfl, Nat.le_of_ble_eq_true rfl, by omega, by omega⟩ hW hS hl.1 (Nat.le_of_ble_eq_true rfl) rfl dL_law_1779 (fun n H locs hn hW hS => W.widen (by omega) (by omega) (t_setTitle (gs_13.trans h13) (FX_gs F) hW hS hl hX hsb hin hc1 hc2 hd hIV2 (hth.trans (show jv 0 = 0 by decide)) (fun _ => hn _ rfl) kk))
set_option maxHeartbeats 4000000 in
set_option maxRecDepth 100000 in
theorem t_insert {code9 v : Int32} (h13 : G.2.2.2 13 = 1) (F : FX (fg G) s.heap.size RL cL_law 7 p s m args meth c) (hW : WH (fg G) s.heap.size μ1 H) (hS : va_S (fb s.heap.size) s.heap H locs) (hl : lv_has ls 7 [(0, .ref sb), (1, .ref (s.heap.size + 0)), (2, .ref (s.heap.size + 306)), (3, .ref (s.heap.size + 331)), (4, .int i)]) (hX : va_X sb L xs s s.heap) (hsb : sb < s.heap.size) (hin : ∀ t : Int32, t ∈ [(1 : Int32), 2, 3, 4, 5] → vp_in (i + t) L) (hc1 : cells + 4 ≤ room_1.cells) (hc2 : slots + 24 ≤ room_1.slots)
    (hd : sh_X12_insert 120000 (xs (i + 1).toNatClampNeg) (xs (i + 2).toNatClampNeg) (xs (i + 3).toNatClampNeg) μ1 = some (v, μ2)) (hIV : IV μ2) (hth : μ2.1 306 0 = code9) (hval : code9 = 0 → Int64.ofNat (G.2.2.2 14) = v.toInt64) (kk : lwK p l e s m args below meth c sb i cells slots Q) : W p l e room_1 s m args below meth c H locs (cells + 4) (slots + 24) Q (F0 m 1850 ls [.int code9]) := by
  have hx := F.1
  have hb := F.2.1
  refine lv_istore (lv' := [(5, .int code9), (0, .ref sb), (1, .ref (s.heap.size + 0)), (2, .ref (s.heap.size + 306)), (3, .ref (s.heap.size + 331)), (4, .int i)]) hx hb dL_law_1850 hl (by decide) rfl (fun ls hl => ?_)
  refine lv_aload_n hx hb dL_law_1852 rfl (lv_at hl 3 rfl) ?_
  refine l_arg (k0 := 1) (k4 := 5) (t := 1) hx hb hX hsb hS hl rfl rfl (hin 1 (by decide)) dL_law_1853 dL_law_1854 dL_law_1856 (by decide) dL_law_1857 dL_law_1858 ?_
  refine l_arg (k0 := 1) (k4 := 5) (t := 2) hx hb hX hsb hS hl rfl rfl (hin 2 (by decide)) dL_law_1859 dL_law_1860 dL_law_1862 (by decide) dL_law_1863 dL_law_1864 ?_
  refine l_arg (k0 := 1) (k4 := 5) (t := 3) hx hb hX hsb hS hl rfl rfl (hin 3 (by decide)) dL_law_1865 dL_law_1866 dL_law_1868 (by decide) dL_law_1869 dL_law_1870 ?_
  refine k_X12_insert F hd q_2043 ⟨Nat.le_of_ble_eq_true rfl, Nat.le_of_ble_eq_true rfl, by omega, by omega⟩ hW hS hl.1 (Nat.le_of_ble_eq_true rfl) dL_law_1871 (fun H locs hW hS => ?_)
  refine lv_istore (lv' := [(6, .int v), (5, .int code9), (0, .ref sb), (1, .ref (s.heap.size + 0)), (2, .ref (s.heap.size + 306)), (3, .ref (s.heap.size + 331)), (4, .int i)]) hx hb dL_law_1874 hl (by decide) rfl (fun ls hl => ?_)
  refine lv_aload_n hx hb dL_law_1876 rfl (lv_at hl 4 rfl) ?_
  refine k_X12_thrown F (show sh_X12_thrown μ2 = some code9 from congrArg some hth) q_1457 ⟨Nat.le_of_ble_eq_true rfl, Nat.le_of_ble_eq_true rfl, by omega, by omega⟩ hW hS hl.1 (Nat.le_of_ble_eq_true rfl) dL_law_1877 (fun H locs hW hS => ?_)
  refine lv_iload hx hb dL_law_1880 (lv_at hl 1 rfl) ?_
  refine lv_icmp_eq (tgt := 1887) hx hb dL_law_1882 (by decide) (fun _ => ?_) (fun q => absurd rfl q)
  refine lv_iload hx hb dL_law_1887 (lv_at hl 1 rfl) ?_
  refine lv_if_ne (tgt := 1904) hx hb dL_law_1889 (by decide) (fun _ => lv_goto (tgt := 2642) hx hb dL_law_1904 (by decide) (kk G μ2 H locs ls h13 F hIV hW hS (lv_sub hl [2, 3, 4, 5, 6] rfl))) (fun h0 => ?_)
  refine lv_aload_n hx hb dL_law_1892 rfl (lv_at hl 5 rfl) ?_
  refine lv_iconst (v := (0 : Int32)) hx hb dL_law_1893 (by decide) ?_
  refine l_out h13 F hW dL_law_1894 ?_
  rw [hval h0]
  refine lv_iload hx hb dL_law_1895 (lv_at hl 0 rfl) ?_
  refine lv_i2l hx hb dL_law_1897 rfl ?_
  refine W.lcmp hx hb dL_law_1898 ?_
  rw [cmp_0]
  exact lv_if_eq (tgt := 1904) hx hb dL_law_1899 (by decide) (fun _ => lv_goto (tgt := 2642) hx hb dL_law_1904 (by decide) (kk G μ2 H locs ls h13 F hIV hW hS (lv_sub hl [2, 3, 4, 5, 6] rfl))) (fun q => absurd rfl q)
set_option maxHeartbeats 4000000 in
set_option maxRecDepth 100000 in
theorem s_insert (hlT : l.stackTraces = false) (hB : lwB p s m args meth c sb L xs i cells slots G μ H locs ls) (kk : lwK p l e s m args below meth c sb i cells slots Q) : W p l e room_1 s m args below meth c H locs cells slots Q (F0 m 1827 ls []) := by
  obtain ⟨h13, F, hIV, hW, hS, hl, hX, hsb, hin, hc1, hc2⟩ := hB
  have hx := F.1
  have hb := F.2.1
  replace hl : lv_has ls 7 [(0, .ref sb), (1, .ref (s.heap.size + 0)), (2, .ref (s.heap.size + 306)), (3, .ref (s.heap.size + 331)), (4, .int i)] := hl
  obtain ⟨x, μ1, v, μ2, hc, hd, hag, hIV2⟩ := i_insert (n := 120000) (Nat.le_refl _) hIV (xs (i + 1).toNatClampNeg) (xs (i + 2).toNatClampNeg) (xs (i + 3).toNatClampNeg)
  refine lv_aload_n hx hb dL_law_1827 rfl (lv_at hl 1 rfl) ?_
  refine l_arg (k0 := 0) (k4 := 4) (t := 1) hx hb hX hsb hS hl rfl rfl (hin 1 (by decide)) dL_law_1828 dL_law_1829 dL_law_1831 (by decide) dL_law_1832 dL_law_1833 ?_
  refine l_arg (k0 := 0) (k4 := 4) (t := 2) hx hb hX hsb hS hl rfl rfl (hin 2 (by decide)) dL_law_1834 dL_law_1835 dL_law_1837 (by decide) dL_law_1838 dL_law_1839 ?_
  refine l_arg (k0 := 0) (k4 := 4) (t := 3) hx hb hX hsb hS hl rfl rfl (hin 3 (by decide)) dL_law_1840 dL_law_1841 dL_law_1843 (by decide) dL_law_1844 dL_law_1845 ?_
  refine lv_aload_n hx hb dL_law_1846 rfl (lv_at hl 3 rfl) ?_
  cases x with
  | inl e9 =>
    obtain ⟨j, hj, hth⟩ := hag
    match j, hj, hth with
    | 0, hj, hth =>
      have e8 : e9 = 2 := (Option.some.inj (show some 2 = some e9 from hj)).symm
      subst e8
      exact l_call (c_L_insert_x2 hlT h13 hc) ⟨rfl, rfl⟩ q_1327 q_0 q_1328 ⟨by decide +kernel, by decide +kernel, (show (parseMethodDescriptor yL_insert.desc).map (fun d => d.parameters.length) = some 5 by decide +kernel)⟩ F q_1326 ⟨Nat.le_of_ble_eq_true rfl, Nat.le_of_ble_eq_true rfl, by omega, by omega⟩ hW hS hl.1 (Nat.le_of_ble_eq_true rfl) rfl dL_law_1847 (fun n H locs hn hW hS => W.widen (by omega) (by omega) (t_insert (gs_13.trans h13) (FX_gs F) hW hS hl hX hsb hin hc1 hc2 hd hIV2 (hth.trans (show jv (((0 : Nat) : Int) + 1) = 1 by decide)) (fun q => absurd q (by decide)) kk))
    | 1, hj, hth =>
      have e8 : e9 = 1 := (Option.some.inj (show some 1 = some e9 from hj)).symm
      subst e8
      exact l_call (c_L_insert_x1 hlT h13 hc) ⟨rfl, rfl⟩ q_1327 q_0 q_1328 ⟨by decide +kernel, by decide +kernel, (show (parseMethodDescriptor yL_insert.desc).map (fun d => d.parameters.length) = some 5 by decide +kernel)⟩ F q_1326 ⟨Nat.le_of_ble_eq_true rfl, Nat.le_of_ble_eq_true rfl, by omega, by omega⟩ hW hS hl.1 (Nat.le_of_ble_eq_true rfl) rfl dL_law_1847 (fun n H locs hn hW hS => W.widen (by omega) (by omega) (t_insert (gs_13.trans h13) (FX_gs F) hW hS hl hX hsb hin hc1 hc2 hd hIV2 (hth.trans (show jv (((1 : Nat) : Int) + 1) = 2 by decide)) (fun q => absurd q (by decide)) kk))
    | 2, hj, hth =>
      have e8 : e9 = 0 := (Option.some.inj (show some 0 = some e9 from hj)).symm
      subst e8
      exact l_call (c_L_insert_x0 hlT h13 hc) ⟨rfl, rfl⟩ q_1327 q_0 q_1328 ⟨by decide +kernel, by decide +kernel, (show (parseMethodDescriptor yL_insert.desc).map (fun d => d.parameters.length) = some 5 by decide +kernel)⟩ F q_1326 ⟨Nat.le_of_ble_eq_true rfl, Nat.le_of_ble_eq_true rfl, by omega, by omega⟩ hW hS hl.1 (Nat.le_of_ble_eq_true rfl) rfl dL_law_1847 (fun n H locs hn hW hS => W.widen (by omega) (by omega) (t_insert (gs_13.trans h13) (FX_gs F) hW hS hl hX hsb hin hc1 hc2 hd hIV2 (hth.trans (show jv (((2 : Nat) : Int) + 1) = 3 by decide)) (fun q => absurd q (by decide)) kk))
    | j + 3, hj, _ => exact absurd (show (none : Option Nat) = some e9 from hj) (fun q => nomatch q)
  | inr r =>
    obtain ⟨hth, hv⟩ := hag
    subst hv
    exact l_call (c_L_insert_ok hlT h13 hc) ⟨rfl, rfl⟩ q_1327 q_0 q_1328 ⟨by decide +kernel, by decide +kernel, (show (parseMethodDescriptor yL_insert.desc).map (fun d => d.parameters.length) = some 5 by decide +kernel)⟩ F q_1326 ⟨Nat.le_of_ble_eq_true rfl, Nat.le_of_ble_eq_true rfl, by omega, by omega⟩ hW hS hl.1 (Nat.le_of_ble_eq_true rfl) rfl dL_law_1847 (fun n H locs hn hW hS => W.widen (by omega) (by omega) (t_insert (gs_13.trans h13) (FX_gs F) hW hS hl hX hsb hin hc1 hc2 hd hIV2 (hth.trans (show jv 0 = 0 by decide)) (fun _ => hn _ rfl) kk))
set_option maxHeartbeats 4000000 in
set_option maxRecDepth 100000 in
theorem t_remove {code9 v : Int32} (h13 : G.2.2.2 13 = 1) (F : FX (fg G) s.heap.size RL cL_law 7 p s m args meth c) (hW : WH (fg G) s.heap.size μ1 H) (hS : va_S (fb s.heap.size) s.heap H locs) (hl : lv_has ls 7 [(0, .ref sb), (1, .ref (s.heap.size + 0)), (2, .ref (s.heap.size + 306)), (3, .ref (s.heap.size + 331)), (4, .int i)]) (hX : va_X sb L xs s s.heap) (hsb : sb < s.heap.size) (hin : ∀ t : Int32, t ∈ [(1 : Int32), 2, 3, 4, 5] → vp_in (i + t) L) (hc1 : cells + 4 ≤ room_1.cells) (hc2 : slots + 24 ≤ room_1.slots)
    (hd : sh_X12_remove 120000 (xs (i + 1).toNatClampNeg) μ1 = some (v, μ2)) (hIV : IV μ2) (hth : μ2.1 306 0 = code9) (hval : code9 = 0 → Int64.ofNat (G.2.2.2 14) = v.toInt64) (kk : lwK p l e s m args below meth c sb i cells slots Q) : W p l e room_1 s m args below meth c H locs (cells + 4) (slots + 24) Q (F0 m 1918 ls [.int code9]) := by
  have hx := F.1
  have hb := F.2.1
  refine lv_istore (lv' := [(5, .int code9), (0, .ref sb), (1, .ref (s.heap.size + 0)), (2, .ref (s.heap.size + 306)), (3, .ref (s.heap.size + 331)), (4, .int i)]) hx hb dL_law_1918 hl (by decide) rfl (fun ls hl => ?_)
  refine lv_aload_n hx hb dL_law_1920 rfl (lv_at hl 3 rfl) ?_
  refine l_arg (k0 := 1) (k4 := 5) (t := 1) hx hb hX hsb hS hl rfl rfl (hin 1 (by decide)) dL_law_1921 dL_law_1922 dL_law_1924 (by decide) dL_law_1925 dL_law_1926 ?_
  refine k_X12_remove F hd q_2059 ⟨Nat.le_of_ble_eq_true rfl, Nat.le_of_ble_eq_true rfl, by omega, by omega⟩ hW hS hl.1 (Nat.le_of_ble_eq_true rfl) dL_law_1927 (fun H locs hW hS => ?_)
  refine lv_istore (lv' := [(6, .int v), (5, .int code9), (0, .ref sb), (1, .ref (s.heap.size + 0)), (2, .ref (s.heap.size + 306)), (3, .ref (s.heap.size + 331)), (4, .int i)]) hx hb dL_law_1930 hl (by decide) rfl (fun ls hl => ?_)
  refine lv_aload_n hx hb dL_law_1932 rfl (lv_at hl 4 rfl) ?_
  refine k_X12_thrown F (show sh_X12_thrown μ2 = some code9 from congrArg some hth) q_1457 ⟨Nat.le_of_ble_eq_true rfl, Nat.le_of_ble_eq_true rfl, by omega, by omega⟩ hW hS hl.1 (Nat.le_of_ble_eq_true rfl) dL_law_1933 (fun H locs hW hS => ?_)
  refine lv_iload hx hb dL_law_1936 (lv_at hl 1 rfl) ?_
  refine lv_icmp_eq (tgt := 1943) hx hb dL_law_1938 (by decide) (fun _ => ?_) (fun q => absurd rfl q)
  refine lv_iload hx hb dL_law_1943 (lv_at hl 1 rfl) ?_
  refine lv_if_ne (tgt := 1960) hx hb dL_law_1945 (by decide) (fun _ => lv_goto (tgt := 2642) hx hb dL_law_1960 (by decide) (kk G μ2 H locs ls h13 F hIV hW hS (lv_sub hl [2, 3, 4, 5, 6] rfl))) (fun h0 => ?_)
  refine lv_aload_n hx hb dL_law_1948 rfl (lv_at hl 5 rfl) ?_
  refine lv_iconst (v := (0 : Int32)) hx hb dL_law_1949 (by decide) ?_
  refine l_out h13 F hW dL_law_1950 ?_
  rw [hval h0]
  refine lv_iload hx hb dL_law_1951 (lv_at hl 0 rfl) ?_
  refine lv_i2l hx hb dL_law_1953 rfl ?_
  refine W.lcmp hx hb dL_law_1954 ?_
  rw [cmp_0]
  exact lv_if_eq (tgt := 1960) hx hb dL_law_1955 (by decide) (fun _ => lv_goto (tgt := 2642) hx hb dL_law_1960 (by decide) (kk G μ2 H locs ls h13 F hIV hW hS (lv_sub hl [2, 3, 4, 5, 6] rfl))) (fun q => absurd rfl q)
set_option maxHeartbeats 4000000 in
set_option maxRecDepth 100000 in
theorem s_remove (hlT : l.stackTraces = false) (hB : lwB p s m args meth c sb L xs i cells slots G μ H locs ls) (kk : lwK p l e s m args below meth c sb i cells slots Q) : W p l e room_1 s m args below meth c H locs cells slots Q (F0 m 1907 ls []) := by
  obtain ⟨h13, F, hIV, hW, hS, hl, hX, hsb, hin, hc1, hc2⟩ := hB
  have hx := F.1
  have hb := F.2.1
  replace hl : lv_has ls 7 [(0, .ref sb), (1, .ref (s.heap.size + 0)), (2, .ref (s.heap.size + 306)), (3, .ref (s.heap.size + 331)), (4, .int i)] := hl
  obtain ⟨x, μ1, v, μ2, hc, hd, hag, hIV2⟩ := i_remove (n := 120000) (Nat.le_refl _) hIV (xs (i + 1).toNatClampNeg)
  refine lv_aload_n hx hb dL_law_1907 rfl (lv_at hl 1 rfl) ?_
  refine l_arg (k0 := 0) (k4 := 4) (t := 1) hx hb hX hsb hS hl rfl rfl (hin 1 (by decide)) dL_law_1908 dL_law_1909 dL_law_1911 (by decide) dL_law_1912 dL_law_1913 ?_
  refine lv_aload_n hx hb dL_law_1914 rfl (lv_at hl 3 rfl) ?_
  cases x with
  | inl e9 =>
    obtain ⟨j, hj, hth⟩ := hag
    match j, hj, hth with
    | 0, hj, hth =>
      have e8 : e9 = 2 := (Option.some.inj (show some 2 = some e9 from hj)).symm
      subst e8
      exact l_call (c_L_remove_x2 hlT h13 hc) ⟨rfl, rfl⟩ q_1341 q_0 q_1342 ⟨by decide +kernel, by decide +kernel, (show (parseMethodDescriptor yL_remove.desc).map (fun d => d.parameters.length) = some 3 by decide +kernel)⟩ F q_1340 ⟨Nat.le_of_ble_eq_true rfl, Nat.le_of_ble_eq_true rfl, by omega, by omega⟩ hW hS hl.1 (Nat.le_of_ble_eq_true rfl) rfl dL_law_1915 (fun n H locs hn hW hS => W.widen (by omega) (by omega) (t_remove (gs_13.trans h13) (FX_gs F) hW hS hl hX hsb hin hc1 hc2 hd hIV2 (hth.trans (show jv (((0 : Nat) : Int) + 1) = 1 by decide)) (fun q => absurd q (by decide)) kk))
    | j + 1, hj, _ => exact absurd (show (none : Option Nat) = some e9 from hj) (fun q => nomatch q)
  | inr r =>
    obtain ⟨hth, hv⟩ := hag
    subst hv
    exact l_call (c_L_remove_ok hlT h13 hc) ⟨rfl, rfl⟩ q_1341 q_0 q_1342 ⟨by decide +kernel, by decide +kernel, (show (parseMethodDescriptor yL_remove.desc).map (fun d => d.parameters.length) = some 3 by decide +kernel)⟩ F q_1340 ⟨Nat.le_of_ble_eq_true rfl, Nat.le_of_ble_eq_true rfl, by omega, by omega⟩ hW hS hl.1 (Nat.le_of_ble_eq_true rfl) rfl dL_law_1915 (fun n H locs hn hW hS => W.widen (by omega) (by omega) (t_remove (gs_13.trans h13) (FX_gs F) hW hS hl hX hsb hin hc1 hc2 hd hIV2 (hth.trans (show jv 0 = 0 by decide)) (fun _ => hn _ rfl) kk))
set_option maxHeartbeats 4000000 in
set_option maxRecDepth 100000 in
theorem t_setWidth {code9 v : Int32} (h13 : G.2.2.2 13 = 1) (F : FX (fg G) s.heap.size RL cL_law 7 p s m args meth c) (hW : WH (fg G) s.heap.size μ1 H) (hS : va_S (fb s.heap.size) s.heap H locs) (hl : lv_has ls 7 [(0, .ref sb), (1, .ref (s.heap.size + 0)), (2, .ref (s.heap.size + 306)), (3, .ref (s.heap.size + 331)), (4, .int i)]) (hX : va_X sb L xs s s.heap) (hsb : sb < s.heap.size) (hin : ∀ t : Int32, t ∈ [(1 : Int32), 2, 3, 4, 5] → vp_in (i + t) L) (hc1 : cells + 4 ≤ room_1.cells) (hc2 : slots + 24 ≤ room_1.slots)
    (hd : sh_X12_setWidth 120000 (xs (i + 1).toNatClampNeg) μ1 = some (v, μ2)) (hIV : IV μ2) (hth : μ2.1 306 0 = code9) (hval : code9 = 0 → Int64.ofNat (G.2.2.2 14) = v.toInt64) (kk : lwK p l e s m args below meth c sb i cells slots Q) : W p l e room_1 s m args below meth c H locs (cells + 4) (slots + 24) Q (F0 m 1974 ls [.int code9]) := by
  have hx := F.1
  have hb := F.2.1
  refine lv_istore (lv' := [(5, .int code9), (0, .ref sb), (1, .ref (s.heap.size + 0)), (2, .ref (s.heap.size + 306)), (3, .ref (s.heap.size + 331)), (4, .int i)]) hx hb dL_law_1974 hl (by decide) rfl (fun ls hl => ?_)
  refine lv_aload_n hx hb dL_law_1976 rfl (lv_at hl 3 rfl) ?_
  refine l_arg (k0 := 1) (k4 := 5) (t := 1) hx hb hX hsb hS hl rfl rfl (hin 1 (by decide)) dL_law_1977 dL_law_1978 dL_law_1980 (by decide) dL_law_1981 dL_law_1982 ?_
  refine k_X12_setWidth F hd q_2063 ⟨Nat.le_of_ble_eq_true rfl, Nat.le_of_ble_eq_true rfl, by omega, by omega⟩ hW hS hl.1 (Nat.le_of_ble_eq_true rfl) dL_law_1983 (fun H locs hW hS => ?_)
  refine lv_istore (lv' := [(6, .int v), (5, .int code9), (0, .ref sb), (1, .ref (s.heap.size + 0)), (2, .ref (s.heap.size + 306)), (3, .ref (s.heap.size + 331)), (4, .int i)]) hx hb dL_law_1986 hl (by decide) rfl (fun ls hl => ?_)
  refine lv_aload_n hx hb dL_law_1988 rfl (lv_at hl 4 rfl) ?_
  refine k_X12_thrown F (show sh_X12_thrown μ2 = some code9 from congrArg some hth) q_1457 ⟨Nat.le_of_ble_eq_true rfl, Nat.le_of_ble_eq_true rfl, by omega, by omega⟩ hW hS hl.1 (Nat.le_of_ble_eq_true rfl) dL_law_1989 (fun H locs hW hS => ?_)
  refine lv_iload hx hb dL_law_1992 (lv_at hl 1 rfl) ?_
  refine lv_icmp_eq (tgt := 1999) hx hb dL_law_1994 (by decide) (fun _ => ?_) (fun q => absurd rfl q)
  refine lv_iload hx hb dL_law_1999 (lv_at hl 1 rfl) ?_
  refine lv_if_ne (tgt := 2016) hx hb dL_law_2001 (by decide) (fun _ => lv_goto (tgt := 2642) hx hb dL_law_2016 (by decide) (kk G μ2 H locs ls h13 F hIV hW hS (lv_sub hl [2, 3, 4, 5, 6] rfl))) (fun h0 => ?_)
  refine lv_aload_n hx hb dL_law_2004 rfl (lv_at hl 5 rfl) ?_
  refine lv_iconst (v := (0 : Int32)) hx hb dL_law_2005 (by decide) ?_
  refine l_out h13 F hW dL_law_2006 ?_
  rw [hval h0]
  refine lv_iload hx hb dL_law_2007 (lv_at hl 0 rfl) ?_
  refine lv_i2l hx hb dL_law_2009 rfl ?_
  refine W.lcmp hx hb dL_law_2010 ?_
  rw [cmp_0]
  exact lv_if_eq (tgt := 2016) hx hb dL_law_2011 (by decide) (fun _ => lv_goto (tgt := 2642) hx hb dL_law_2016 (by decide) (kk G μ2 H locs ls h13 F hIV hW hS (lv_sub hl [2, 3, 4, 5, 6] rfl))) (fun q => absurd rfl q)
set_option maxHeartbeats 4000000 in
set_option maxRecDepth 100000 in
theorem s_setWidth (hlT : l.stackTraces = false) (hB : lwB p s m args meth c sb L xs i cells slots G μ H locs ls) (kk : lwK p l e s m args below meth c sb i cells slots Q) : W p l e room_1 s m args below meth c H locs cells slots Q (F0 m 1963 ls []) := by
  obtain ⟨h13, F, hIV, hW, hS, hl, hX, hsb, hin, hc1, hc2⟩ := hB
  have hx := F.1
  have hb := F.2.1
  replace hl : lv_has ls 7 [(0, .ref sb), (1, .ref (s.heap.size + 0)), (2, .ref (s.heap.size + 306)), (3, .ref (s.heap.size + 331)), (4, .int i)] := hl
  obtain ⟨x, μ1, v, μ2, hc, hd, hag, hIV2⟩ := i_setWidth (n := 120000) (Nat.le_refl _) hIV (xs (i + 1).toNatClampNeg)
  refine lv_aload_n hx hb dL_law_1963 rfl (lv_at hl 1 rfl) ?_
  refine l_arg (k0 := 0) (k4 := 4) (t := 1) hx hb hX hsb hS hl rfl rfl (hin 1 (by decide)) dL_law_1964 dL_law_1965 dL_law_1967 (by decide) dL_law_1968 dL_law_1969 ?_
  refine lv_aload_n hx hb dL_law_1970 rfl (lv_at hl 3 rfl) ?_
  cases x with
  | inl e9 =>
    obtain ⟨j, hj, hth⟩ := hag
    match j, hj, hth with
    | 0, hj, hth =>
      have e8 : e9 = 1 := (Option.some.inj (show some 1 = some e9 from hj)).symm
      subst e8
      exact l_call (c_L_setWidth_x1 hlT h13 hc) ⟨rfl, rfl⟩ q_1353 q_0 q_1354 ⟨by decide +kernel, by decide +kernel, (show (parseMethodDescriptor yL_setWidth.desc).map (fun d => d.parameters.length) = some 3 by decide +kernel)⟩ F q_1352 ⟨Nat.le_of_ble_eq_true rfl, Nat.le_of_ble_eq_true rfl, by omega, by omega⟩ hW hS hl.1 (Nat.le_of_ble_eq_true rfl) rfl dL_law_1971 (fun n H locs hn hW hS => W.widen (by omega) (by omega) (t_setWidth (gs_13.trans h13) (FX_gs F) hW hS hl hX hsb hin hc1 hc2 hd hIV2 (hth.trans (show jv (((0 : Nat) : Int) + 1) = 1 by decide)) (fun q => absurd q (by decide)) kk))
    | j + 1, hj, _ => exact absurd (show (none : Option Nat) = some e9 from hj) (fun q => nomatch q)
  | inr r =>
    obtain ⟨hth, hv⟩ := hag
    subst hv
    exact l_call (c_L_setWidth_ok hlT h13 hc) ⟨rfl, rfl⟩ q_1353 q_0 q_1354 ⟨by decide +kernel, by decide +kernel, (show (parseMethodDescriptor yL_setWidth.desc).map (fun d => d.parameters.length) = some 3 by decide +kernel)⟩ F q_1352 ⟨Nat.le_of_ble_eq_true rfl, Nat.le_of_ble_eq_true rfl, by omega, by omega⟩ hW hS hl.1 (Nat.le_of_ble_eq_true rfl) rfl dL_law_1971 (fun n H locs hn hW hS => W.widen (by omega) (by omega) (t_setWidth (gs_13.trans h13) (FX_gs F) hW hS hl hX hsb hin hc1 hc2 hd hIV2 (hth.trans (show jv 0 = 0 by decide)) (fun _ => hn _ rfl) kk))
end CASES
