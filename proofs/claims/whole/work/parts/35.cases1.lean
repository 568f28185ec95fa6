/-! the law's cases, on -/
section CASES
variable {p : Program} {l : Launch} {e : Env} {s : State} {m : MethodId} {args : Array Value} {below : List Frame} {meth : Method} {c : Code} {H : Heap} {locs : List Loc} {cells slots : Nat} {Q : State → Prop}
variable {ls : Array Slot} {G : Gt} {μ μ1 μ2 : Mm} {sb L : Nat} {xs : Nat → Int32} {i : Int32}
set_option maxHeartbeats 4000000 in
set_option maxRecDepth 100000 in
theorem s_errorCode (hlT : l.stackTraces = false) (hB : lwB p s m args meth c sb L xs i cells slots G μ H locs ls) (kk : lwK p l e s m args below meth c sb i cells slots Q) : W p l e room_1 s m args below meth c H locs cells slots Q (F0 m 417 ls []) := by
  obtain ⟨h13, F, hIV, hW, hS, hl, hX, hsb, hin, hc1, hc2⟩ := hB
  have hx := F.1
  have hb := F.2.1
  replace hl : lv_has ls 7 [(0, .ref sb), (1, .ref (s.heap.size + 0)), (2, .ref (s.heap.size + 306)), (3, .ref (s.heap.size + 331)), (4, .int i)] := hl
  obtain ⟨v, μ2, hc, hd, hIV2⟩ := i_errorCode (n := 120000) (Nat.le_refl _) hIV
  refine lv_aload_n hx hb dL_law_417 rfl (lv_at hl 1 rfl) ?_
  refine k_X11_errorCode F hc q_789 ⟨Nat.le_of_ble_eq_true rfl, Nat.le_of_ble_eq_true rfl, by omega, by omega⟩ hW hS hl.1 (Nat.le_of_ble_eq_true rfl) dL_law_418 (fun H locs hW hS => ?_)
  refine lv_aload_n hx hb dL_law_421 rfl (lv_at hl 2 rfl) ?_
  refine k_X12_errorCode F hd q_1751 ⟨Nat.le_of_ble_eq_true rfl, Nat.le_of_ble_eq_true rfl, by omega, by omega⟩ hW hS hl.1 (Nat.le_of_ble_eq_true rfl) dL_law_422 (fun H locs hW hS => ?_)
  exact lv_icmp_eq (tgt := 2642) hx hb dL_law_425 (by decide) (fun _ => W.widen (by omega) (by omega) (kk G μ2 H locs ls h13 F hIV2 hW hS hl)) (fun q => absurd rfl q)
set_option maxHeartbeats 4000000 in
set_option maxRecDepth 100000 in
theorem s_errorPosition (hlT : l.stackTraces = false) (hB : lwB p s m args meth c sb L xs i cells slots G μ H locs ls) (kk : lwK p l e s m args below meth c sb i cells slots Q) : W p l e room_1 s m args below meth c H locs cells slots Q (F0 m 430 ls []) := by
  obtain ⟨h13, F, hIV, hW, hS, hl, hX, hsb, hin, hc1, hc2⟩ := hB
  have hx := F.1
  have hb := F.2.1
  replace hl : lv_has ls 7 [(0, .ref sb), (1, .ref (s.heap.size + 0)), (2, .ref (s.heap.size + 306)), (3, .ref (s.heap.size + 331)), (4, .int i)] := hl
  obtain ⟨v, μ2, hc, hd, hIV2⟩ := i_errorPosition (n := 120000) (Nat.le_refl _) hIV
  refine lv_aload_n hx hb dL_law_430 rfl (lv_at hl 1 rfl) ?_
  refine k_X11_errorPosition F hc q_793 ⟨Nat.le_of_ble_eq_true rfl, Nat.le_of_ble_eq_true rfl, by omega, by omega⟩ hW hS hl.1 (Nat.le_of_ble_eq_true rfl) dL_law_431 (fun H locs hW hS => ?_)
  refine lv_aload_n hx hb dL_law_434 rfl (lv_at hl 2 rfl) ?_
  refine k_X12_errorPosition F hd q_1755 ⟨Nat.le_of_ble_eq_true rfl, Nat.le_of_ble_eq_true rfl, by omega, by omega⟩ hW hS hl.1 (Nat.le_of_ble_eq_true rfl) dL_law_435 (fun H locs hW hS => ?_)
  exact lv_icmp_eq (tgt := 2642) hx hb dL_law_438 (by decide) (fun _ => W.widen (by omega) (by omega) (kk G μ2 H locs ls h13 F hIV2 hW hS hl)) (fun q => absurd rfl q)
set_option maxHeartbeats 4000000 in
set_option maxRecDepth 100000 in
theorem t_setting {code9 v : Int32} (h13 : G.2.2.2 13 = 1) (F : FX (fg G) s.heap.size RL cL_law 7 p s m args meth c) (hW : WH (fg G) s.heap.size μ1 H) (hS : va_S (fb s.heap.size) s.heap H locs) (hl : lv_has ls 7 [(0, .ref sb), (1, .ref (s.heap.size + 0)), (2, .ref (s.heap.size + 306)), (3, .ref (s.heap.size + 331)), (4, .int i)]) (hX : va_X sb L xs s s.heap) (hsb : sb < s.heap.size) (hin : ∀ t : Int32, t ∈ [(1 : Int32), 2, 3, 4, 5] → vp_in (i + t) L) (hc1 : cells + 4 ≤ room_1.cells) (hc2 : slots + 24 ≤ room_1.slots)
    (hd : sh_X12_setting (xs (i + 1).toNatClampNeg) μ1 = some (v, μ2)) (hIV : IV μ2) (hth : μ2.1 306 0 = code9) (hval : code9 = 0 → Int64.ofNat (G.2.2.2 14) = v.toInt64) (kk : lwK p l e s m args below meth c sb i cells slots Q) : W p l e room_1 s m args below meth c H locs (cells + 4) (slots + 24) Q (F0 m 510 ls [.int code9]) := by
  have hx := F.1
  have hb := F.2.1
  refine lv_istore (lv' := [(5, .int code9), (0, .ref sb), (1, .ref (s.heap.size + 0)), (2, .ref (s.heap.size + 306)), (3, .ref (s.heap.size + 331)), (4, .int i)]) hx hb dL_law_510 hl (by decide) rfl (fun ls hl => ?_)
  refine lv_aload_n hx hb dL_law_512 rfl (lv_at hl 3 rfl) ?_
  refine l_arg (k0 := 1) (k4 := 5) (t := 1) hx hb hX hsb hS hl rfl rfl (hin 1 (by decide)) dL_law_513 dL_law_514 dL_law_516 (by decide) dL_law_517 dL_law_518 ?_
  refine k_X12_setting F hd q_1856 ⟨Nat.le_of_ble_eq_true rfl, Nat.le_of_ble_eq_true rfl, by omega, by omega⟩ hW hS hl.1 (Nat.le_of_ble_eq_true rfl) dL_law_519 (fun H locs hW hS => ?_)
  refine lv_istore (lv' := [(6, .int v), (5, .int code9), (0, .ref sb), (1, .ref (s.heap.size + 0)), (2, .ref (s.heap.size + 306)), (3, .ref (s.heap.size + 331)), (4, .int i)]) hx hb dL_law_522 hl (by decide) rfl (fun ls hl => ?_)
  refine lv_aload_n hx hb dL_law_524 rfl (lv_at hl 4 rfl) ?_
  refine k_X12_thrown F (show sh_X12_thrown μ2 = some code9 from congrArg some hth) q_1457 ⟨Nat.le_of_ble_eq_true rfl, Nat.le_of_ble_eq_true rfl, by omega, by omega⟩ hW hS hl.1 (Nat.le_of_ble_eq_true rfl) dL_law_525 (fun H locs hW hS => ?_)
  refine lv_iload hx hb dL_law_528 (lv_at hl 1 rfl) ?_
  refine lv_icmp_eq (tgt := 535) hx hb dL_law_530 (by decide) (fun _ => ?_) (fun q => absurd rfl q)
  refine lv_iload hx hb dL_law_535 (lv_at hl 1 rfl) ?_
  refine lv_if_ne (tgt := 552) hx hb dL_law_537 (by decide) (fun _ => lv_goto (tgt := 2642) hx hb dL_law_552 (by decide) (kk G μ2 H locs ls h13 F hIV hW hS (lv_sub hl [2, 3, 4, 5, 6] rfl))) (fun h0 => ?_)
  refine lv_aload_n hx hb dL_law_540 rfl (lv_at hl 5 rfl) ?_
  refine lv_iconst (v := (0 : Int32)) hx hb dL_law_541 (by decide) ?_
  refine l_out h13 F hW dL_law_542 ?_
  rw [hval h0]
  refine lv_iload hx hb dL_law_543 (lv_at hl 0 rfl) ?_
  refine lv_i2l hx hb dL_law_545 rfl ?_
  refine W.lcmp hx hb dL_law_546 ?_
  rw [cmp_0]
  exact lv_if_eq (tgt := 552) hx hb dL_law_547 (by decide) (fun _ => lv_goto (tgt := 2642) hx hb dL_law_552 (by decide) (kk G μ2 H locs ls h13 F hIV hW hS (lv_sub hl [2, 3, 4, 5, 6] rfl))) (fun q => absurd rfl q)
set_option maxHeartbeats 4000000 in
set_option maxRecDepth 100000 in
theorem s_setting (hlT : l.stackTraces = false) (hB : lwB p s m args meth c sb L xs i cells slots G μ H locs ls) (kk : lwK p l e s m args below meth c sb i cells slots Q) : W p l e room_1 s m args below meth c H locs cells slots Q (F0 m 499 ls []) := by
  obtain ⟨h13, F, hIV, hW, hS, hl, hX, hsb, hin, hc1, hc2⟩ := hB
  have hx := F.1
  have hb := F.2.1
  replace hl : lv_has ls 7 [(0, .ref sb), (1, .ref (s.heap.size + 0)), (2, .ref (s.heap.size + 306)), (3, .ref (s.heap.size + 331)), (4, .int i)] := hl
  obtain ⟨x, v, μ2, hc, hd, hag, hIV2⟩ := i_setting (n := 120000) (Nat.le_refl _) hIV (xs (i + 1).toNatClampNeg)
  refine lv_aload_n hx hb dL_law_499 rfl (lv_at hl 1 rfl) ?_
  refine l_arg (k0 := 0) (k4 := 4) (t := 1) hx hb hX hsb hS hl rfl rfl (hin 1 (by decide)) dL_law_500 dL_law_501 dL_law_503 (by decide) dL_law_504 dL_law_505 ?_
  refine lv_aload_n hx hb dL_law_506 rfl (lv_at hl 3 rfl) ?_
  cases x with
  | inl e9 =>
    obtain ⟨j, hj, hth⟩ := hag
    match j, hj, hth with
    | 0, hj, hth =>
      have e8 : e9 = 1 := (Option.some.inj (show some 1 = some e9 from hj)).symm
      subst e8
      exact l_call (c_L_setting_x1 hlT h13 hc) ⟨rfl, rfl⟩ q_1089 q_0 q_1090 ⟨by decide +kernel, by decide +kernel, (show (parseMethodDescriptor yL_setting.desc).map (fun d => d.parameters.length) = some 3 by decide +kernel)⟩ F q_1088 ⟨Nat.le_of_ble_eq_true rfl, Nat.le_of_ble_eq_true rfl, by omega, by omega⟩ hW hS hl.1 (Nat.le_of_ble_eq_true rfl) rfl dL_law_507 (fun n H locs hn hW hS => W.widen (by omega) (by omega) (t_setting (gs_13.trans h13) (FX_gs F) hW hS hl hX hsb hin hc1 hc2 hd hIV2 (hth.trans (show jv (((0 : Nat) : Int) + 1) = 1 by decide)) (fun q => absurd q (by decide)) kk))
    | j + 1, hj, _ => exact absurd (show (none : Option Nat) = some e9 from hj) (fun q => nomatch q)
  | inr r =>
    obtain ⟨hth, hv⟩ := hag
    subst hv
    exact l_call (c_L_setting_ok hlT h13 hc) ⟨rfl, rfl⟩ q_1089 q_0 q_1090 ⟨by decide +kernel, by decide +kernel, (show (parseMethodDescriptor yL_setting.desc).map (fun d => d.parameters.length) = some 3 by decide +kernel)⟩ F q_1088 ⟨Nat.le_of_ble_eq_true rfl, Nat.le_of_ble_eq_true rfl, by omega, by omega⟩ hW hS hl.1 (Nat.le_of_ble_eq_true rfl) rfl dL_law_507 (fun n H locs hn hW hS => W.widen (by omega) (by omega) (t_setting (gs_13.trans h13) (FX_gs F) hW hS hl hX hsb hin hc1 hc2 hd hIV2 (hth.trans (show jv 0 = 0 by decide)) (fun _ => hn _ rfl) kk))
set_option maxHeartbeats 4000000 in
set_option maxRecDepth 100000 in
theorem t_titleWidth {code9 v : Int32} (h13 : G.2.2.2 13 = 1) (F : FX (fg G) s.heap.size RL cL_law 7 p s m args meth c) (hW : WH (fg G) s.heap.size μ1 H) (hS : va_S (fb s.heap.size) s.heap H locs) (hl : lv_has ls 7 [(0, .ref sb), (1, .ref (s.heap.size + 0)), (2, .ref (s.heap.size + 306)), (3, .ref (s.heap.size + 331)), (4, .int i)]) (hX : va_X sb L xs s s.heap) (hsb : sb < s.heap.size) (hin : ∀ t : Int32, t ∈ [(1 : Int32), 2, 3, 4, 5] → vp_in (i + t) L) (hc1 : cells + 4 ≤ room_1.cells) (hc2 : slots + 24 ≤ room_1.slots)
    (hd : sh_X12_titleWidth 120000 (xs (i + 1).toNatClampNeg) μ1 = some (v, μ2)) (hIV : IV μ2) (hth : μ2.1 306 0 = code9) (hval : code9 = 0 → Int64.ofNat (G.2.2.2 14) = v.toInt64) (kk : lwK p l e s m args below meth c sb i cells slots Q) : W p l e room_1 s m args below meth c H locs (cells + 4) (slots + 24) Q (F0 m 647 ls [.int code9]) := by
  have hx := F.1
  have hb := F.2.1
  refine lv_istore (lv' := [(5, .int code9), (0, .ref sb), (1, .ref (s.heap.size + 0)), (2, .ref (s.heap.size + 306)), (3, .ref (s.heap.size + 331)), (4, .int i)]) hx hb dL_law_647 hl (by decide) rfl (fun ls hl => ?_)
  refine lv_aload_n hx hb dL_law_649 rfl (lv_at hl 3 rfl) ?_
  refine l_arg (k0 := 1) (k4 := 5) (t := 1) hx hb hX hsb hS hl rfl rfl (hin 1 (by decide)) dL_law_650 dL_law_651 dL_law_653 (by decide) dL_law_654 dL_law_655 ?_
  refine k_X12_titleWidth F hd q_1881 ⟨Nat.le_of_ble_eq_true rfl, Nat.le_of_ble_eq_true rfl, by omega, by omega⟩ hW hS hl.1 (Nat.le_of_ble_eq_true rfl) dL_law_656 (fun H locs hW hS => ?_)
  refine lv_istore (lv' := [(6, .int v), (5, .int code9), (0, .ref sb), (1, .ref (s.heap.size + 0)), (2, .ref (s.heap.size + 306)), (3, .ref (s.heap.size + 331)), (4, .int i)]) hx hb dL_law_659 hl (by decide) rfl (fun ls hl => ?_)
  refine lv_aload_n hx hb dL_law_661 rfl (lv_at hl 4 rfl) ?_
  refine k_X12_thrown F (show sh_X12_thrown μ2 = some code9 from congrArg some hth) q_1457 ⟨Nat.le_of_ble_eq_true rfl, Nat.le_of_ble_eq_true rfl, by omega, by omega⟩ hW hS hl.1 (Nat.le_of_ble_eq_true rfl) dL_law_662 (fun H locs hW hS => ?_)
  refine lv_iload hx hb dL_law_665 (lv_at hl 1 rfl) ?_
  refine lv_icmp_eq (tgt := 672) hx hb dL_law_667 (by decide) (fun _ => ?_) (fun q => absurd rfl q)
  refine lv_iload hx hb dL_law_672 (lv_at hl 1 rfl) ?_
  refine lv_if_ne (tgt := 689) hx hb dL_law_674 (by decide) (fun _ => lv_goto (tgt := 2642) hx hb dL_law_689 (by decide) (kk G μ2 H locs ls h13 F hIV hW hS (lv_sub hl [2, 3, 4, 5, 6] rfl))) (fun h0 => ?_)
  refine lv_aload_n hx hb dL_law_677 rfl (lv_at hl 5 rfl) ?_
  refine lv_iconst (v := (0 : Int32)) hx hb dL_law_678 (by decide) ?_
  refine l_out h13 F hW dL_law_679 ?_
  rw [hval h0]
  refine lv_iload hx hb dL_law_680 (lv_at hl 0 rfl) ?_
  refine lv_i2l hx hb dL_law_682 rfl ?_
  refine W.lcmp hx hb dL_law_683 ?_
  rw [cmp_0]
  exact lv_if_eq (tgt := 689) hx hb dL_law_684 (by decide) (fun _ => lv_goto (tgt := 2642) hx hb dL_law_689 (by decide) (kk G μ2 H locs ls h13 F hIV hW hS (lv_sub hl [2, 3, 4, 5, 6] rfl))) (fun q => absurd rfl q)
set_option maxHeartbeats 4000000 in
set_option maxRecDepth 100000 in
theorem s_titleWidth (hlT : l.stackTraces = false) (hB : lwB p s m args meth c sb L xs i cells slots G μ H locs ls) (kk : lwK p l e s m args below meth c sb i cells slots Q) : W p l e room_1 s m args below meth c H locs cells slots Q (F0 m 636 ls []) := by
  obtain ⟨h13, F, hIV, hW, hS, hl, hX, hsb, hin, hc1, hc2⟩ := hB
  have hx := F.1
  have hb := F.2.1
  replace hl : lv_has ls 7 [(0, .ref sb), (1, .ref (s.heap.size + 0)), (2, .ref (s.heap.size + 306)), (3, .ref (s.heap.size + 331)), (4, .int i)] := hl
  obtain ⟨x, v, μ2, hc, hd, hag, hIV2⟩ := i_titleWidth (n := 120000) (Nat.le_refl _) hIV (xs (i + 1).toNatClampNeg)
  refine lv_aload_n hx hb dL_law_636 rfl (lv_at hl 1 rfl) ?_
  refine l_arg (k0 := 0) (k4 := 4) (t := 1) hx hb hX hsb hS hl rfl rfl (hin 1 (by decide)) dL_law_637 dL_law_638 dL_law_640 (by decide) dL_law_641 dL_law_642 ?_
  refine lv_aload_n hx hb dL_law_643 rfl (lv_at hl 3 rfl) ?_
  cases x with
  | inl e9 =>
    obtain ⟨j, hj, hth⟩ := hag
    match j, hj, hth with
    | 0, hj, hth =>
      have e8 : e9 = 2 := (Option.some.inj (show some 2 = some e9 from hj)).symm
      subst e8
      exact l_call (c_L_titleWidth_x2 hlT h13 hc) ⟨rfl, rfl⟩ q_1127 q_0 q_1128 ⟨by decide +kernel, by decide +kernel, (show (parseMethodDescriptor yL_titleWidth.desc).map (fun d => d.parameters.length) = some 3 by decide +kernel)⟩ F q_1126 ⟨Nat.le_of_ble_eq_true rfl, Nat.le_of_ble_eq_true rfl, by omega, by omega⟩ hW hS hl.1 (Nat.le_of_ble_eq_true rfl) rfl dL_law_644 (fun n H locs hn hW hS => W.widen (by omega) (by omega) (t_titleWidth (gs_13.trans h13) (FX_gs F) hW hS hl hX hsb hin hc1 hc2 hd hIV2 (hth.trans (show jv (((0 : Nat) : Int) + 1) = 1 by decide)) (fun q => absurd q (by decide)) kk))
    | j + 1, hj, _ => exact absurd (show (none : Option Nat) = some e9 from hj) (fun q => nomatch q)
  | inr r =>
    obtain ⟨hth, hv⟩ := hag
    subst hv
    exact l_call (c_L_titleWidth_ok hlT h13 hc) ⟨rfl, rfl⟩ q_1127 q_0 q_1128 ⟨by decide +kernel, by decide +kernel, (show (parseMethodDescriptor yL_titleWidth.desc).map (fun d => d.parameters.length) = some 3 by decide +kernel)⟩ F q_1126 ⟨Nat.le_of_ble_eq_true rfl, Nat.le_of_ble_eq_true rfl, by omega, by omega⟩ hW hS hl.1 (Nat.le_of_ble_eq_true rfl) rfl dL_law_644 (fun n H locs hn hW hS => W.widen (by omega) (by omega) (t_titleWidth (gs_13.trans h13) (FX_gs F) hW hS hl hX hsb hin hc1 hc2 hd hIV2 (hth.trans (show jv 0 = 0 by decide)) (fun _ => hn _ rfl) kk))
set_option maxHeartbeats 4000000 in
set_option maxRecDepth 100000 in
theorem t_page {code9 v : Int32} (h13 : G.2.2.2 13 = 1) (F : FX (fg G) s.heap.size RL cL_law 7 p s m args meth c) (hW : WH (fg G) s.heap.size μ1 H) (hS : va_S (fb s.heap.size) s.heap H locs) (hl : lv_has ls 7 [(0, .ref sb), (1, .ref (s.heap.size + 0)), (2, .ref (s.heap.size + 306)), (3, .ref (s.heap.size + 331)), (4, .int i)]) (hX : va_X sb L xs s s.heap) (hsb : sb < s.heap.size) (hin : ∀ t : Int32, t ∈ [(1 : Int32), 2, 3, 4, 5] → vp_in (i + t) L) (hc1 : cells + 4 ≤ room_1.cells) (hc2 : slots + 24 ≤ room_1.slots)
    (hd : sh_X12_page 120000 (xs (i + 1).toNatClampNeg) μ1 = some (v, μ2)) (hIV : IV μ2) (hth : μ2.1 306 0 = code9) (hval : code9 = 0 → Int64.ofNat (G.2.2.2 14) = v.toInt64) (kk : lwK p l e s m args below meth c sb i cells slots Q) : W p l e room_1 s m args below meth c H locs (cells + 4) (slots + 24) Q (F0 m 703 ls [.int code9]) := by
  have hx := F.1
  have hb := F.2.1
  refine lv_istore (lv' := [(5, .int code9), (0, .ref sb), (1, .ref (s.heap.size + 0)), (2, .ref (s.heap.size + 306)), (3, .ref (s.heap.size + 331)), (4, .int i)]) hx hb dL_law_703 hl (by decide) rfl (fun ls hl => ?_)
  refine lv_aload_n hx hb dL_law_705 rfl (lv_at hl 3 rfl) ?_
  refine l_arg (k0 := 1) (k4 := 5) (t := 1) hx hb hX hsb hS hl rfl rfl (hin 1 (by decide)) dL_law_706 dL_law_707 dL_law_709 (by decide) dL_law_710 dL_law_711 ?_
  refine k_X12_page F hd q_1889 ⟨Nat.le_of_ble_eq_true rfl, Nat.le_of_ble_eq_true rfl, by omega, by omega⟩ hW hS hl.1 (Nat.le_of_ble_eq_true rfl) dL_law_712 (fun H locs hW hS => ?_)
  refine lv_istore (lv' := [(6, .int v), (5, .int code9), (0, .ref sb), (1, .ref (s.heap.size + 0)), (2, .ref (s.heap.size + 306)), (3, .ref (s.heap.size + 331)), (4, .int i)]) hx hb dL_law_715 hl (by decide) rfl (fun ls hl => ?_)
  refine lv_aload_n hx hb dL_law_717 rfl (lv_at hl 4 rfl) ?_
  refine k_X12_thrown F (show sh_X12_thrown μ2 = some code9 from congrArg some hth) q_1457 ⟨Nat.le_of_ble_eq_true rfl, Nat.le_of_ble_eq_true rfl, by omega, by omega⟩ hW hS hl.1 (Nat.le_of_ble_eq_true rfl) dL_law_718 (fun H locs hW hS => ?_)
  refine lv_iload hx hb dL_law_721 (lv_at hl 1 rfl) ?_
  refine lv_icmp_eq (tgt := 728) hx hb dL_law_723 (by decide) (fun _ => ?_) (fun q => absurd rfl q)
  refine lv_iload hx hb dL_law_728 (lv_at hl 1 rfl) ?_
  refine lv_if_ne (tgt := 745) hx hb dL_law_730 (by decide) (fun _ => lv_goto (tgt := 2642) hx hb dL_law_745 (by decide) (kk G μ2 H locs ls h13 F hIV hW hS (lv_sub hl [2, 3, 4, 5, 6] rfl))) (fun h0 => ?_)
  refine lv_aload_n hx hb dL_law_733 rfl (lv_at hl 5 rfl) ?_
  refine lv_iconst (v := (0 : Int32)) hx hb dL_law_734 (by decide) ?_
  refine l_out h13 F hW dL_law_735 ?_
  rw [hval h0]
  refine lv_iload hx hb dL_law_736 (lv_at hl 0 rfl) ?_
  refine lv_i2l hx hb dL_law_738 rfl ?_
  refine W.lcmp hx hb dL_law_739 ?_
  rw [cmp_0]
  exact lv_if_eq (tgt := 745) hx hb dL_law_740 (by decide) (fun _ => lv_goto (tgt := 2642) hx hb dL_law_745 (by decide) (kk G μ2 H locs ls h13 F hIV hW hS (lv_sub hl [2, 3, 4, 5, 6] rfl))) (fun q => absurd rfl q)
set_option maxHeartbeats 4000000 in
set_option maxRecDepth 100000 in
theorem s_page (hlT : l.stackTraces = false) (hB : lwB p s m args meth c sb L xs i cells slots G μ H locs ls) (kk : lwK p l e s m args below meth c sb i cells slots Q) : W p l e room_1 s m args below meth c H locs cells slots Q (F0 m 692 ls []) := by
  obtain ⟨h13, F, hIV, hW, hS, hl, hX, hsb, hin, hc1, hc2⟩ := hB
  have hx := F.1
  have hb := F.2.1
  replace hl : lv_has ls 7 [(0, .ref sb), (1, .ref (s.heap.size + 0)), (2, .ref (s.heap.size + 306)), (3, .ref (s.heap.size + 331)), (4, .int i)] := hl
  obtain ⟨x, v, μ2, hc, hd, hag, hIV2⟩ := i_page (n := 120000) (Nat.le_refl _) hIV (xs (i + 1).toNatClampNeg)
  refine lv_aload_n hx hb dL_law_692 rfl (lv_at hl 1 rfl) ?_
  refine l_arg (k0 := 0) (k4 := 4) (t := 1) hx hb hX hsb hS hl rfl rfl (hin 1 (by decide)) dL_law_693 dL_law_694 dL_law_696 (by decide) dL_law_697 dL_law_698 ?_
  refine lv_aload_n hx hb dL_law_699 rfl (lv_at hl 3 rfl) ?_
  cases x with
  | inl e9 =>
    obtain ⟨j, hj, hth⟩ := hag
    match j, hj, hth with
    | 0, hj, hth =>
      have e8 : e9 = 2 := (Option.some.inj (show some 2 = some e9 from hj)).symm
      subst e8
      exact l_call (c_L_page_x2 hlT h13 hc) ⟨rfl, rfl⟩ q_1134 q_0 q_1135 ⟨by decide +kernel, by decide +kernel, (show (parseMethodDescriptor yL_page.desc).map (fun d => d.parameters.length) = some 3 by decide +kernel)⟩ F q_1133 ⟨Nat.le_of_ble_eq_true rfl, Nat.le_of_ble_eq_true rfl, by omega, by omega⟩ hW hS hl.1 (Nat.le_of_ble_eq_true rfl) rfl dL_law_700 (fun n H locs hn hW hS => W.widen (by omega) (by omega) (t_page (gs_13.trans h13) (FX_gs F) hW hS hl hX hsb hin hc1 hc2 hd hIV2 (hth.trans (show jv (((0 : Nat) : Int) + 1) = 1 by decide)) (fun q => absurd q (by decide)) kk))
    | j + 1, hj, _ => exact absurd (show (none : Option Nat) = some e9 from hj) (fun q => nomatch q)
  | inr r =>
    obtain ⟨hth, hv⟩ := hag
    subst hv
    exact l_call (c_L_page_ok hlT h13 hc) ⟨rfl, rfl⟩ q_1134 q_0 q_1135 ⟨by decide +kernel, by decide +kernel, (show (parseMethodDescriptor yL_page.desc).map (fun d => d.parameters.length) = some 3 by decide +kernel)⟩ F q_1133 ⟨Nat.le_of_ble_eq_true rfl, Nat.le_of_ble_eq_true rfl, by omega, by omega⟩ hW hS hl.1 (Nat.le_of_ble_eq_true rfl) rfl dL_law_700 (fun n H locs hn hW hS => W.widen (by omega) (by omega) (t_page (gs_13.trans h13) (FX_gs F) hW hS hl hX hsb hin hc1 hc2 hd hIV2 (hth.trans (show jv 0 = 0 by decide)) (fun _ => hn _ rfl) kk))
set_option maxHeartbeats 4000000 in
set_option maxRecDepth 100000 in
theorem t_bookPage {code9 v : Int32} (h13 : G.2.2.2 13 = 1) (F : FX (fg G) s.heap.size RL cL_law 7 p s m args meth c) (hW : WH (fg G) s.heap.size μ1 H) (hS : va_S (fb s.heap.size) s.heap H locs) (hl : lv_has ls 7 [(0, .ref sb), (1, .ref (s.heap.size + 0)), (2, .ref (s.heap.size + 306)), (3, .ref (s.heap.size + 331)), (4, .int i)]) (hX : va_X sb L xs s s.heap) (hsb : sb < s.heap.size) (hin : ∀ t : Int32, t ∈ [(1 : Int32), 2, 3, 4, 5] → vp_in (i + t) L) (hc1 : cells + 4 ≤ room_1.cells) (hc2 : slots + 24 ≤ room_1.slots)
    (hd : sh_X12_bookPage 120000 (xs (i + 1).toNatClampNeg) μ1 = some (v, μ2)) (hIV : IV μ2) (hth : μ2.1 306 0 = code9) (hval : code9 = 0 → Int64.ofNat (G.2.2.2 14) = v.toInt64) (kk : lwK p l e s m args below meth c sb i cells slots Q) : W p l e room_1 s m args below meth c H locs (cells + 4) (slots + 24) Q (F0 m 759 ls [.int code9]) := by
  have hx := F.1
  have hb := F.2.1
  refine lv_istore (lv' := [(5, .int code9), (0, .ref sb), (1, .ref (s.heap.size + 0)), (2, .ref (s.heap.size + 306)), (3, .ref (s.heap.size + 331)), (4, .int i)]) hx hb dL_law_759 hl (by decide) rfl (fun ls hl => ?_)
  refine lv_aload_n hx hb dL_law_761 rfl (lv_at hl 3 rfl) ?_
  refine l_arg (k0 := 1) (k4 := 5) (t := 1) hx hb hX hsb hS hl rfl rfl (hin 1 (by decide)) dL_law_762 dL_law_763 dL_law_765 (by decide) dL_law_766 dL_law_767 ?_
  refine k_X12_bookPage F hd q_1897 ⟨Nat.le_of_ble_eq_true rfl, Nat.le_of_ble_eq_true rfl, by omega, by omega⟩ hW hS hl.1 (Nat.le_of_ble_eq_true rfl) dL_law_768 (fun H locs hW hS => ?_)
  refine lv_istore (lv' := [(6, .int v), (5, .int code9), (0, .ref sb), (1, .ref (s.heap.size + 0)), (2, .ref (s.heap.size + 306)), (3, .ref (s.heap.size + 331)), (4, .int i)]) hx hb dL_law_771 hl (by decide) rfl (fun ls hl => ?_)
  refine lv_aload_n hx hb dL_law_773 rfl (lv_at hl 4 rfl) ?_
  refine k_X12_thrown F (show sh_X12_thrown μ2 = some code9 from congrArg some hth) q_1457 ⟨Nat.le_of_ble_eq_true rfl, Nat.le_of_ble_eq_true rfl, by omega, by omega⟩ hW hS hl.1 (Nat.le_of_ble_eq_true rfl) dL_law_774 (fun H locs hW hS => ?_)
  refine lv_iload hx hb dL_law_777 (lv_at hl 1 rfl) ?_
  refine lv_icmp_eq (tgt := 784) hx hb dL_law_779 (by decide) (fun _ => ?_) (fun q => absurd rfl q)
  refine lv_iload hx hb dL_law_784 (lv_at hl 1 rfl) ?_
  refine lv_if_ne (tgt := 801) hx hb dL_law_786 (by decide) (fun _ => lv_goto (tgt := 2642) hx hb dL_law_801 (by decide) (kk G μ2 H locs ls h13 F hIV hW hS (lv_sub hl [2, 3, 4, 5, 6] rfl))) (fun h0 => ?_)
  refine lv_aload_n hx hb dL_law_789 rfl (lv_at hl 5 rfl) ?_
  refine lv_iconst (v := (0 : Int32)) hx hb dL_law_790 (by decide) ?_
  refine l_out h13 F hW dL_law_791 ?_
  rw [hval h0]
  refine lv_iload hx hb dL_law_792 (lv_at hl 0 rfl) ?_
  refine lv_i2l hx hb dL_law_794 rfl ?_
  refine W.lcmp hx hb dL_law_795 ?_
  rw [cmp_0]
  exact lv_if_eq (tgt := 801) hx hb dL_law_796 (by decide) (fun _ => lv_goto (tgt := 2642) hx hb dL_law_801 (by decide) (kk G μ2 H locs ls h13 F hIV hW hS (lv_sub hl [2, 3, 4, 5, 6] rfl))) (fun q => absurd rfl q)
set_option maxHeartbeats 4000000 in
set_option maxRecDepth 100000 in
theorem s_bookPage (hlT : l.stackTraces = false) (hB : lwB p s m args meth c sb L xs i cells slots G μ H locs ls) (kk : lwK p l e s m args below meth c sb i cells slots Q) : W p l e room_1 s m args below meth c H locs cells slots Q (F0 m 748 ls []) := by
  obtain ⟨h13, F, hIV, hW, hS, hl, hX, hsb, hin, hc1, hc2⟩ := hB
  have hx := F.1
  have hb := F.2.1
  replace hl : lv_has ls 7 [(0, .ref sb), (1, .ref (s.heap.size + 0)), (2, .ref (s.heap.size + 306)), (3, .ref (s.heap.size + 331)), (4, .int i)] := hl
  obtain ⟨x, v, μ2, hc, hd, hag, hIV2⟩ := i_bookPage (n := 120000) (Nat.le_refl _) hIV (xs (i + 1).toNatClampNeg)
  refine lv_aload_n hx hb dL_law_748 rfl (lv_at hl 1 rfl) ?_
  refine l_arg (k0 := 0) (k4 := 4) (t := 1) hx hb hX hsb hS hl rfl rfl (hin 1 (by decide)) dL_law_749 dL_law_750 dL_law_752 (by decide) dL_law_753 dL_law_754 ?_
  refine lv_aload_n hx hb dL_law_755 rfl (lv_at hl 3 rfl) ?_
  cases x with
  | inl e9 =>
    obtain ⟨j, hj, hth⟩ := hag
    match j, hj, hth with
    | 0, hj, hth =>
      have e8 : e9 = 2 := (Option.some.inj (show some 2 = some e9 from hj)).symm
      subst e8
      exact l_call (c_L_bookPage_x2 hlT h13 hc) ⟨rfl, rfl⟩ q_1141 q_0 q_1142 ⟨by decide +kernel, by decide +kernel, (show (parseMethodDescriptor yL_bookPage.desc).map (fun d => d.parameters.length) = some 3 by decide +kernel)⟩ F q_1140 ⟨Nat.le_of_ble_eq_true rfl, Nat.le_of_ble_eq_true rfl, by omega, by omega⟩ hW hS hl.1 (Nat.le_of_ble_eq_true rfl) rfl dL_law_756 (fun n H locs hn hW hS => W.widen (by omega) (by omega) (t_bookPage (gs_13.trans h13) (FX_gs F) hW hS hl hX hsb hin hc1 hc2 hd hIV2 (hth.trans (show jv (((0 : Nat) : Int) + 1) = 1 by decide)) (fun q => absurd q (by decide)) kk))
    | j + 1, hj, _ => exact absurd (show (none : Option Nat) = some e9 from hj) (fun q => nomatch q)
  | inr r =>
    obtain ⟨hth, hv⟩ := hag
    subst hv
    exact l_call (c_L_bookPage_ok hlT h13 hc) ⟨rfl, rfl⟩ q_1141 q_0 q_1142 ⟨by decide +kernel, by decide +kernel, (show (parseMethodDescriptor yL_bookPage.desc).map (fun d => d.parameters.length) = some 3 by decide +kernel)⟩ F q_1140 ⟨Nat.le_of_ble_eq_true rfl, Nat.le_of_ble_eq_true rfl, by omega, by omega⟩ hW hS hl.1 (Nat.le_of_ble_eq_true rfl) rfl dL_law_756 (fun n H locs hn hW hS => W.widen (by omega) (by omega) (t_bookPage (gs_13.trans h13) (FX_gs F) hW hS hl hX hsb hin hc1 hc2 hd hIV2 (hth.trans (show jv 0 = 0 by decide)) (fun _ => hn _ rfl) kk))
set_option maxHeartbeats 4000000 in
set_option maxRecDepth 100000 in
theorem t_lineOnPage {code9 v : Int32} (h13 : G.2.2.2 13 = 1) (F : FX (fg G) s.heap.size RL cL_law 7 p s m args meth c) (hW : WH (fg G) s.heap.size μ1 H) (hS : va_S (fb s.heap.size) s.heap H locs) (hl : lv_has ls 7 [(0, .ref sb), (1, .ref (s.heap.size + 0)), (2, .ref (s.heap.size + 306)), (3, .ref (s.heap.size + 331)), (4, .int i)]) (hX : va_X sb L xs s s.heap) (hsb : sb < s.heap.size) (hin : ∀ t : Int32, t ∈ [(1 : Int32), 2, 3, 4, 5] → vp_in (i + t) L) (hc1 : cells + 4 ≤ room_1.cells) (hc2 : slots + 24 ≤ room_1.slots)
    (hd : sh_X12_lineOnPage 120000 (xs (i + 1).toNatClampNeg) μ1 = some (v, μ2)) (hIV : IV μ2) (hth : μ2.1 306 0 = code9) (hval : code9 = 0 → Int64.ofNat (G.2.2.2 14) = v.toInt64) (kk : lwK p l e s m args below meth c sb i cells slots Q) : W p l e room_1 s m args below meth c H locs (cells + 4) (slots + 24) Q (F0 m 815 ls [.int code9]) := by
  have hx := F.1
  have hb := F.2.1
  refine lv_istore (lv' := [(5, .int code9), (0, .ref sb), (1, .ref (s.heap.size + 0)), (2, .ref (s.heap.size + 306)), (3, .ref (s.heap.size + 331)), (4, .int i)]) hx hb dL_law_815 hl (by decide) rfl (fun ls hl => ?_)
  refine lv_aload_n hx hb dL_law_817 rfl (lv_at hl 3 rfl) ?_
  refine l_arg (k0 := 1) (k4 := 5) (t := 1) hx hb hX hsb hS hl rfl rfl (hin 1 (by decide)) dL_law_818 dL_law_819 dL_law_821 (by decide) dL_law_822 dL_law_823 ?_
  refine k_X12_lineOnPage F hd q_1905 ⟨Nat.le_of_ble_eq_true rfl, Nat.le_of_ble_eq_true rfl, by omega, by omega⟩ hW hS hl.1 (Nat.le_of_ble_eq_true rfl) dL_law_824 (fun H locs hW hS => ?_)
  refine lv_istore (lv' := [(6, .int v), (5, .int code9), (0, .ref sb), (1, .ref (s.heap.size + 0)), (2, .ref (s.heap.size + 306)), (3, .ref (s.heap.size + 331)), (4, .int i)]) hx hb dL_law_827 hl (by decide) rfl (fun ls hl => ?_)
  refine lv_aload_n hx hb dL_law_829 rfl (lv_at hl 4 rfl) ?_
  refine k_X12_thrown F (show sh_X12_thrown μ2 = some code9 from congrArg some hth) q_1457 ⟨Nat.le_of_ble_eq_true rfl, Nat.le_of_ble_eq_true rfl, by omega, by omega⟩ hW hS hl.1 (Nat.le_of_ble_eq_true rfl) dL_law_830 (fun H locs hW hS => ?_)
  refine lv_iload hx hb dL_law_833 (lv_at hl 1 rfl) ?_
  refine lv_icmp_eq (tgt := 840) hx hb dL_law_835 (by decide) (fun _ => ?_) (fun q => absurd rfl q)
  refine lv_iload hx hb dL_law_840 (lv_at hl 1 rfl) ?_
  refine lv_if_ne (tgt := 857) hx hb dL_law_842 (by decide) (fun _ => lv_goto (tgt := 2642) hx hb dL_law_857 (by decide) (kk G μ2 H locs ls h13 F hIV hW hS (lv_sub hl [2, 3, 4, 5, 6] rfl))) (fun h0 => ?_)
  refine lv_aload_n hx hb dL_law_845 rfl (lv_at hl 5 rfl) ?_
  refine lv_iconst (v := (0 : Int32)) hx hb dL_law_846 (by decide) ?_
  refine l_out h13 F hW dL_law_847 ?_
  rw [hval h0]
  refine lv_iload hx hb dL_law_848 (lv_at hl 0 rfl) ?_
  refine lv_i2l hx hb dL_law_850 rfl ?_
  refine W.lcmp hx hb dL_law_851 ?_
  rw [cmp_0]
  exact lv_if_eq (tgt := 857) hx hb dL_law_852 (by decide) (fun _ => lv_goto (tgt := 2642) hx hb dL_law_857 (by decide) (kk G μ2 H locs ls h13 F hIV hW hS (lv_sub hl [2, 3, 4, 5, 6] rfl))) (fun q => absurd rfl q)
set_option maxHeartbeats 4000000 in
set_option maxRecDepth 100000 in
theorem s_lineOnPage (hlT : l.stackTraces = false) (hB : lwB p s m args meth c sb L xs i cells slots G μ H locs ls) (kk : lwK p l e s m args below meth c sb i cells slots Q) : W p l e room_1 s m args below meth c H locs cells slots Q (F0 m 804 ls []) := by
  obtain ⟨h13, F, hIV, hW, hS, hl, hX, hsb, hin, hc1, hc2⟩ := hB
  have hx := F.1
  have hb := F.2.1
  replace hl : lv_has ls 7 [(0, .ref sb), (1, .ref (s.heap.size + 0)), (2, .ref (s.heap.size + 306)), (3, .ref (s.heap.size + 331)), (4, .int i)] := hl
  obtain ⟨x, v, μ2, hc, hd, hag, hIV2⟩ := i_lineOnPage (n := 120000) (Nat.le_refl _) hIV (xs (i + 1).toNatClampNeg)
  refine lv_aload_n hx hb dL_law_804 rfl (lv_at hl 1 rfl) ?_
  refine l_arg (k0 := 0) (k4 := 4) (t := 1) hx hb hX hsb hS hl rfl rfl (hin 1 (by decide)) dL_law_805 dL_law_806 dL_law_808 (by decide) dL_law_809 dL_law_810 ?_
  refine lv_aload_n hx hb dL_law_811 rfl (lv_at hl 3 rfl) ?_
  cases x with
  | inl e9 =>
    obtain ⟨j, hj, hth⟩ := hag
    match j, hj, hth with
    | 0, hj, hth =>
      have e8 : e9 = 2 := (Option.some.inj (show some 2 = some e9 from hj)).symm
      subst e8
      exact l_call (c_L_lineOnPage_x2 hlT h13 hc) ⟨rfl, rfl⟩ q_1148 q_0 q_1149 ⟨by decide +kernel, by decide +kernel, (show (parseMethodDescriptor yL_lineOnPage.desc).map (fun d => d.parameters.length) = some 3 by decide +kernel)⟩ F q_1147 ⟨Nat.le_of_ble_eq_true rfl, Nat.le_of_ble_eq_true rfl, by omega, by omega⟩ hW hS hl.1 (Nat.le_of_ble_eq_true rfl) rfl dL_law_812 (fun n H locs hn hW hS => W.widen (by omega) (by omega) (t_lineOnPage (gs_13.trans h13) (FX_gs F) hW hS hl hX hsb hin hc1 hc2 hd hIV2 (hth.trans (show jv (((0 : Nat) : Int) + 1) = 1 by decide)) (fun q => absurd q (by decide)) kk))
    | j + 1, hj, _ => exact absurd (show (none : Option Nat) = some e9 from hj) (fun q => nomatch q)
  | inr r =>
    obtain ⟨hth, hv⟩ := hag
    subst hv
    exact l_call (c_L_lineOnPage_ok hlT h13 hc) ⟨rfl, rfl⟩ q_1148 q_0 q_1149 ⟨by decide +kernel, by decide +kernel, (show (parseMethodDescriptor yL_lineOnPage.desc).map (fun d => d.parameters.length) = some 3 by decide +kernel)⟩ F q_1147 ⟨Nat.le_of_ble_eq_true rfl, Nat.le_of_ble_eq_true rfl, by omega, by omega⟩ hW hS hl.1 (Nat.le_of_ble_eq_true rfl) rfl dL_law_812 (fun n H locs hn hW hS => W.widen (by omega) (by omega) (t_lineOnPage (gs_13.trans h13) (FX_gs F) hW hS hl hX hsb hin hc1 hc2 hd hIV2 (hth.trans (show jv 0 = 0 by decide)) (fun _ => hn _ rfl) kk))
set_option maxHeartbeats 4000000 in
set_option maxRecDepth 100000 in
theorem t_numberWidth {code9 v : Int32} (h13 : G.2.2.2 13 = 1) (F : FX (fg G) s.heap.size RL cL_law 7 p s m args meth c) (hW : WH (fg G) s.heap.size μ1 H) (hS : va_S (fb s.heap.size) s.heap H locs) (hl : lv_has ls 7 [(0, .ref sb), (1, .ref (s.heap.size + 0)), (2, .ref (s.heap.size + 306)), (3, .ref (s.heap.size + 331)), (4, .int i)]) (hX : va_X sb L xs s s.heap) (hsb : sb < s.heap.size) (hin : ∀ t : Int32, t ∈ [(1 : Int32), 2, 3, 4, 5] → vp_in (i + t) L) (hc1 : cells + 4 ≤ room_1.cells) (hc2 : slots + 24 ≤ room_1.slots)
    (hd : sh_X12_numberWidth 120000 (xs (i + 1).toNatClampNeg) μ1 = some (v, μ2)) (hIV : IV μ2) (hth : μ2.1 306 0 = code9) (hval : code9 = 0 → Int64.ofNat (G.2.2.2 14) = v.toInt64) (kk : lwK p l e s m args below meth c sb i cells slots Q) : W p l e room_1 s m args below meth c H locs (cells + 4) (slots + 24) Q (F0 m 871 ls [.int code9]) := by
  have hx := F.1
  have hb := F.2.1
  refine lv_istore (lv' := [(5, .int code9), (0, .ref sb), (1, .ref (s.heap.size + 0)), (2, .ref (s.heap.size + 306)), (3, .ref (s.heap.size + 331)), (4, .int i)]) hx hb dL_law_871 hl (by decide) rfl (fun ls hl => ?_)
  refine lv_aload_n hx hb dL_law_873 rfl (lv_at hl 3 rfl) ?_
  refine l_arg (k0 := 1) (k4 := 5) (t := 1) hx hb hX hsb hS hl rfl rfl (hin 1 (by decide)) dL_law_874 dL_law_875 dL_law_877 (by decide) dL_law_878 dL_law_879 ?_
  refine k_X12_numberWidth F hd q_1909 ⟨Nat.le_of_ble_eq_true rfl, Nat.le_of_ble_eq_true rfl, by omega, by omega⟩ hW hS hl.1 (Nat.le_of_ble_eq_true rfl) dL_law_880 (fun H locs hW hS => ?_)
  refine lv_istore (lv' := [(6, .int v), (5, .int code9), (0, .ref sb), (1, .ref (s.heap.size + 0)), (2, .ref (s.heap.size + 306)), (3, .ref (s.heap.size + 331)), (4, .int i)]) hx hb dL_law_883 hl (by decide) rfl (fun ls hl => ?_)
  refine lv_aload_n hx hb dL_law_885 rfl (lv_at hl 4 rfl) ?_
  refine k_X12_thrown F (show sh_X12_thrown μ2 = some code9 from congrArg some hth) q_1457 ⟨Nat.le_of_ble_eq_true rfl, Nat.le_of_ble_eq_true rfl, by omega, by omega⟩ hW hS hl.1 (Nat.le_of_ble_eq_true rfl) dL_law_886 (fun H locs hW hS => ?_)
  refine lv_iload hx hb dL_law_889 (lv_at hl 1 rfl) ?_
  refine lv_icmp_eq (tgt := 896) hx hb dL_law_891 (by decide) (fun _ => ?_) (fun q => absurd rfl q)
  refine lv_iload hx hb dL_law_896 (lv_at hl 1 rfl) ?_
  refine lv_if_ne (tgt := 913) hx hb dL_law_898 (by decide) (fun _ => lv_goto (tgt := 2642) hx hb dL_law_913 (by decide) (kk G μ2 H locs ls h13 F hIV hW hS (lv_sub hl [2, 3, 4, 5, 6] rfl))) (fun h0 => ?_)
  refine lv_aload_n hx hb dL_law_901 rfl (lv_at hl 5 rfl) ?_
  refine lv_iconst (v := (0 : Int32)) hx hb dL_law_902 (by decide) ?_
  refine l_out h13 F hW dL_law_903 ?_
  rw [hval h0]
  refine lv_iload hx hb dL_law_904 (lv_at hl 0 rfl) ?_
  refine lv_i2l hx hb dL_law_906 rfl ?_
  refine W.lcmp hx hb dL_law_907 ?_
  rw [cmp_0]
  exact lv_if_eq (tgt := 913) hx hb dL_law_908 (by decide) (fun _ => lv_goto (tgt := 2642) hx hb dL_law_913 (by decide) (kk G μ2 H locs ls h13 F hIV hW hS (lv_sub hl [2, 3, 4, 5, 6] rfl))) (fun q => absurd rfl q)
set_option maxHeartbeats 4000000 in
set_option maxRecDepth 100000 in
theorem s_numberWidth (hlT : l.stackTraces = false) (hB : lwB p s m args meth c sb L xs i cells slots G μ H locs ls) (kk : lwK p l e s m args below meth c sb i cells slots Q) : W p l e room_1 s m args below meth c H locs cells slots Q (F0 m 860 ls []) := by
  obtain ⟨h13, F, hIV, hW, hS, hl, hX, hsb, hin, hc1, hc2⟩ := hB
  have hx := F.1
  have hb := F.2.1
  replace hl : lv_has ls 7 [(0, .ref sb), (1, .ref (s.heap.size + 0)), (2, .ref (s.heap.size + 306)), (3, .ref (s.heap.size + 331)), (4, .int i)] := hl
  obtain ⟨x, v, μ2, hc, hd, hag, hIV2⟩ := i_numberWidth (n := 120000) (Nat.le_refl _) hIV (xs (i + 1).toNatClampNeg)
  refine lv_aload_n hx hb dL_law_860 rfl (lv_at hl 1 rfl) ?_
  refine l_arg (k0 := 0) (k4 := 4) (t := 1) hx hb hX hsb hS hl rfl rfl (hin 1 (by decide)) dL_law_861 dL_law_862 dL_law_864 (by decide) dL_law_865 dL_law_866 ?_
  refine lv_aload_n hx hb dL_law_867 rfl (lv_at hl 3 rfl) ?_
  cases x with
  | inl e9 =>
    obtain ⟨j, hj, hth⟩ := hag
    match j, hj, hth with
    | 0, hj, hth =>
      have e8 : e9 = 2 := (Option.some.inj (show some 2 = some e9 from hj)).symm
      subst e8
      exact l_call (c_L_numberWidth_x2 hlT h13 hc) ⟨rfl, rfl⟩ q_1155 q_0 q_1156 ⟨by decide +kernel, by decide +kernel, (show (parseMethodDescriptor yL_numberWidth.desc).map (fun d => d.parameters.length) = some 3 by decide +kernel)⟩ F q_1154 ⟨Nat.le_of_ble_eq_true rfl, Nat.le_of_ble_eq_true rfl, by omega, by omega⟩ hW hS hl.1 (Nat.le_of_ble_eq_true rfl) rfl dL_law_868 (fun n H locs hn hW hS => W.widen (by omega) (by omega) (t_numberWidth (gs_13.trans h13) (FX_gs F) hW hS hl hX hsb hin hc1 hc2 hd hIV2 (hth.trans (show jv (((0 : Nat) : Int) + 1) = 1 by decide)) (fun q => absurd q (by decide)) kk))
    | j + 1, hj, _ => exact absurd (show (none : Option Nat) = some e9 from hj) (fun q => nomatch q)
  | inr r =>
    obtain ⟨hth, hv⟩ := hag
    subst hv
    exact l_call (c_L_numberWidth_ok hlT h13 hc) ⟨rfl, rfl⟩ q_1155 q_0 q_1156 ⟨by decide +kernel, by decide +kernel, (show (parseMethodDescriptor yL_numberWidth.desc).map (fun d => d.parameters.length) = some 3 by decide +kernel)⟩ F q_1154 ⟨Nat.le_of_ble_eq_true rfl, Nat.le_of_ble_eq_true rfl, by omega, by omega⟩ hW hS hl.1 (Nat.le_of_ble_eq_true rfl) rfl dL_law_868 (fun n H locs hn hW hS => W.widen (by omega) (by omega) (t_numberWidth (gs_13.trans h13) (FX_gs F) hW hS hl hX hsb hin hc1 hc2 hd hIV2 (hth.trans (show jv 0 = 0 by decide)) (fun _ => hn _ rfl) kk))
set_option maxHeartbeats 4000000 in
set_option maxRecDepth 100000 in
theorem t_findPage {code9 v : Int32} (h13 : G.2.2.2 13 = 1) (F : FX (fg G) s.heap.size RL cL_law 7 p s m args meth c) (hW : WH (fg G) s.heap.size μ1 H) (hS : va_S (fb s.heap.size) s.heap H locs) (hl : lv_has ls 7 [(0, .ref sb), (1, .ref (s.heap.size + 0)), (2, .ref (s.heap.size + 306)), (3, .ref (s.heap.size + 331)), (4, .int i)]) (hX : va_X sb L xs s s.heap) (hsb : sb < s.heap.size) (hin : ∀ t : Int32, t ∈ [(1 : Int32), 2, 3, 4, 5] → vp_in (i + t) L) (hc1 : cells + 4 ≤ room_1.cells) (hc2 : slots + 24 ≤ room_1.slots)
    (hd : sh_X12_findPage 120000 (xs (i + 1).toNatClampNeg) (xs (i + 2).toNatClampNeg) μ1 = some (v, μ2)) (hIV : IV μ2) (hth : μ2.1 306 0 = code9) (hval : code9 = 0 → Int64.ofNat (G.2.2.2 14) = v.toInt64) (kk : lwK p l e s m args below meth c sb i cells slots Q) : W p l e room_1 s m args below meth c H locs (cells + 4) (slots + 24) Q (F0 m 933 ls [.int code9]) := by
  have hx := F.1
  have hb := F.2.1
  refine lv_istore (lv' := [(5, .int code9), (0, .ref sb), (1, .ref (s.heap.size + 0)), (2, .ref (s.heap.size + 306)), (3, .ref (s.heap.size + 331)), (4, .int i)]) hx hb dL_law_933 hl (by decide) rfl (fun ls hl => ?_)
  refine lv_aload_n hx hb dL_law_935 rfl (lv_at hl 3 rfl) ?_
  refine l_arg (k0 := 1) (k4 := 5) (t := 1) hx hb hX hsb hS hl rfl rfl (hin 1 (by decide)) dL_law_936 dL_law_937 dL_law_939 (by decide) dL_law_940 dL_law_941 ?_
  refine l_arg (k0 := 1) (k4 := 5) (t := 2) hx hb hX hsb hS hl rfl rfl (hin 2 (by decide)) dL_law_942 dL_law_943 dL_law_945 (by decide) dL_law_946 dL_law_947 ?_
  refine k_X12_findPage F hd q_1913 ⟨Nat.le_of_ble_eq_true rfl, Nat.le_of_ble_eq_true rfl, by omega, by omega⟩ hW hS hl.1 (Nat.le_of_ble_eq_true rfl) dL_law_948 (fun H locs hW hS => ?_)
  refine lv_istore (lv' := [(6, .int v), (5, .int code9), (0, .ref sb), (1, .ref (s.heap.size + 0)), (2, .ref (s.heap.size + 306)), (3, .ref (s.heap.size + 331)), (4, .int i)]) hx hb dL_law_951 hl (by decide) rfl (fun ls hl => ?_)
  refine lv_aload_n hx hb dL_law_953 rfl (lv_at hl 4 rfl) ?_
  refine k_X12_thrown F (show sh_X12_thrown μ2 = some code9 from congrArg some hth) q_1457 ⟨Nat.le_of_ble_eq_true rfl, Nat.le_of_ble_eq_true rfl, by omega, by omega⟩ hW hS hl.1 (Nat.le_of_ble_eq_true rfl) dL_law_954 (fun H locs hW hS => ?_)
  refine lv_iload hx hb dL_law_957 (lv_at hl 1 rfl) ?_
  refine lv_icmp_eq (tgt := 964) hx hb dL_law_959 (by decide) (fun _ => ?_) (fun q => absurd rfl q)
  refine lv_iload hx hb dL_law_964 (lv_at hl 1 rfl) ?_
  refine lv_if_ne (tgt := 981) hx hb dL_law_966 (by decide) (fun _ => lv_goto (tgt := 2642) hx hb dL_law_981 (by decide) (kk G μ2 H locs ls h13 F hIV hW hS (lv_sub hl [2, 3, 4, 5, 6] rfl))) (fun h0 => ?_)
  refine lv_aload_n hx hb dL_law_969 rfl (lv_at hl 5 rfl) ?_
  refine lv_iconst (v := (0 : Int32)) hx hb dL_law_970 (by decide) ?_
  refine l_out h13 F hW dL_law_971 ?_
  rw [hval h0]
  refine lv_iload hx hb dL_law_972 (lv_at hl 0 rfl) ?_
  refine lv_i2l hx hb dL_law_974 rfl ?_
  refine W.lcmp hx hb dL_law_975 ?_
  rw [cmp_0]
  exact lv_if_eq (tgt := 981) hx hb dL_law_976 (by decide) (fun _ => lv_goto (tgt := 2642) hx hb dL_law_981 (by decide) (kk G μ2 H locs ls h13 F hIV hW hS (lv_sub hl [2, 3, 4, 5, 6] rfl))) (fun q => absurd rfl q)
set_option maxHeartbeats 4000000 in
set_option maxRecDepth 100000 in
theorem s_findPage (hlT : l.stackTraces = false) (hB : lwB p s m args meth c sb L xs i cells slots G μ H locs ls) (kk : lwK p l e s m args below meth c sb i cells slots Q) : W p l e room_1 s m args below meth c H locs cells slots Q (F0 m 916 ls []) := by
  obtain ⟨h13, F, hIV, hW, hS, hl, hX, hsb, hin, hc1, hc2⟩ := hB
  have hx := F.1
  have hb := F.2.1
  replace hl : lv_has ls 7 [(0, .ref sb), (1, .ref (s.heap.size + 0)), (2, .ref (s.heap.size + 306)), (3, .ref (s.heap.size + 331)), (4, .int i)] := hl
  obtain ⟨x, v, μ2, hc, hd, hag, hIV2⟩ := i_findPage (n := 120000) (Nat.le_refl _) hIV (xs (i + 1).toNatClampNeg) (xs (i + 2).toNatClampNeg)
  refine lv_aload_n hx hb dL_law_916 rfl (lv_at hl 1 rfl) ?_
  refine l_arg (k0 := 0) (k4 := 4) (t := 1) hx hb hX hsb hS hl rfl rfl (hin 1 (by decide)) dL_law_917 dL_law_918 dL_law_920 (by decide) dL_law_921 dL_law_922 ?_
  refine l_arg (k0 := 0) (k4 := 4) (t := 2) hx hb hX hsb hS hl rfl rfl (hin 2 (by decide)) dL_law_923 dL_law_924 dL_law_926 (by decide) dL_law_927 dL_law_928 ?_
  refine lv_aload_n hx hb dL_law_929 rfl (lv_at hl 3 rfl) ?_
  cases x with
  | inl e9 =>
    obtain ⟨j, hj, hth⟩ := hag
    match j, hj, hth with
    | 0, hj, hth =>
      have e8 : e9 = 1 := (Option.some.inj (show some 1 = some e9 from hj)).symm
      subst e8
      exact l_call (c_L_findPage_x1 hlT h13 hc) ⟨rfl, rfl⟩ q_1162 q_0 q_1163 ⟨by decide +kernel, by decide +kernel, (show (parseMethodDescriptor yL_findPage.desc).map (fun d => d.parameters.length) = some 4 by decide +kernel)⟩ F q_1161 ⟨Nat.le_of_ble_eq_true rfl, Nat.le_of_ble_eq_true rfl, by omega, by omega⟩ hW hS hl.1 (Nat.le_of_ble_eq_true rfl) rfl dL_law_930 (fun n H locs hn hW hS => W.widen (by omega) (by omega) (t_findPage (gs_13.trans h13) (FX_gs F) hW hS hl hX hsb hin hc1 hc2 hd hIV2 (hth.trans (show jv (((0 : Nat) : Int) + 1) = 1 by decide)) (fun q => absurd q (by decide)) kk))
    | j + 1, hj, _ => exact absurd (show (none : Option Nat) = some e9 from hj) (fun q => nomatch q)
  | inr r =>
    obtain ⟨hth, hv⟩ := hag
    subst hv
    exact l_call (c_L_findPage_ok hlT h13 hc) ⟨rfl, rfl⟩ q_1162 q_0 q_1163 ⟨by decide +kernel, by decide +kernel, (show (parseMethodDescriptor yL_findPage.desc).map (fun d => d.parameters.length) = some 4 by decide +kernel)⟩ F q_1161 ⟨Nat.le_of_ble_eq_true rfl, Nat.le_of_ble_eq_true rfl, by omega, by omega⟩ hW hS hl.1 (Nat.le_of_ble_eq_true rfl) rfl dL_law_930 (fun n H locs hn hW hS => W.widen (by omega) (by omega) (t_findPage (gs_13.trans h13) (FX_gs F) hW hS hl hX hsb hin hc1 hc2 hd hIV2 (hth.trans (show jv 0 = 0 by decide)) (fun _ => hn _ rfl) kk))
set_option maxHeartbeats 4000000 in
set_option maxRecDepth 100000 in
theorem t_sectionAt {code9 v : Int32} (h13 : G.2.2.2 13 = 1) (F : FX (fg G) s.heap.size RL cL_law 7 p s m args meth c) (hW : WH (fg G) s.heap.size μ1 H) (hS : va_S (fb s.heap.size) s.heap H locs) (hl : lv_has ls 7 [(0, .ref sb), (1, .ref (s.heap.size + 0)), (2, .ref (s.heap.size + 306)), (3, .ref (s.heap.size + 331)), (4, .int i)]) (hX : va_X sb L xs s s.heap) (hsb : sb < s.heap.size) (hin : ∀ t : Int32, t ∈ [(1 : Int32), 2, 3, 4, 5] → vp_in (i + t) L) (hc1 : cells + 4 ≤ room_1.cells) (hc2 : slots + 24 ≤ room_1.slots)
    (hd : sh_X12_sectionAt 120000 (xs (i + 1).toNatClampNeg) μ1 = some (v, μ2)) (hIV : IV μ2) (hth : μ2.1 306 0 = code9) (hval : code9 = 0 → Int64.ofNat (G.2.2.2 14) = v.toInt64) (kk : lwK p l e s m args below meth c sb i cells slots Q) : W p l e room_1 s m args below meth c H locs (cells + 4) (slots + 24) Q (F0 m 995 ls [.int code9]) := by
  have hx := F.1
  have hb := F.2.1
  refine lv_istore (lv' := [(5, .int code9), (0, .ref sb), (1, .ref (s.heap.size + 0)), (2, .ref (s.heap.size + 306)), (3, .ref (s.heap.size + 331)), (4, .int i)]) hx hb dL_law_995 hl (by decide) rfl (fun ls hl => ?_)
  refine lv_aload_n hx hb dL_law_997 rfl (lv_at hl 3 rfl) ?_
  refine l_arg (k0 := 1) (k4 := 5) (t := 1) hx hb hX hsb hS hl rfl rfl (hin 1 (by decide)) dL_law_998 dL_law_999 dL_law_1001 (by decide) dL_law_1002 dL_law_1003 ?_
  refine k_X12_sectionAt F hd q_1917 ⟨Nat.le_of_ble_eq_true rfl, Nat.le_of_ble_eq_true rfl, by omega, by omega⟩ hW hS hl.1 (Nat.le_of_ble_eq_true rfl) dL_law_1004 (fun H locs hW hS => ?_)
  refine lv_istore (lv' := [(6, .int v), (5, .int code9), (0, .ref sb), (1, .ref (s.heap.size + 0)), (2, .ref (s.heap.size + 306)), (3, .ref (s.heap.size + 331)), (4, .int i)]) hx hb dL_law_1007 hl (by decide) rfl (fun ls hl => ?_)
  refine lv_aload_n hx hb dL_law_1009 rfl (lv_at hl 4 rfl) ?_
  refine k_X12_thrown F (show sh_X12_thrown μ2 = some code9 from congrArg some hth) q_1457 ⟨Nat.le_of_ble_eq_true rfl, Nat.le_of_ble_eq_true rfl, by omega, by omega⟩ hW hS hl.1 (Nat.le_of_ble_eq_true rfl) dL_law_1010 (fun H locs hW hS => ?_)
  refine lv_iload hx hb dL_law_1013 (lv_at hl 1 rfl) ?_
  refine lv_icmp_eq (tgt := 1020) hx hb dL_law_1015 (by decide) (fun _ => ?_) (fun q => absurd rfl q)
  refine lv_iload hx hb dL_law_1020 (lv_at hl 1 rfl) ?_
  refine lv_if_ne (tgt := 1037) hx hb dL_law_1022 (by decide) (fun _ => lv_goto (tgt := 2642) hx hb dL_law_1037 (by decide) (kk G μ2 H locs ls h13 F hIV hW hS (lv_sub hl [2, 3, 4, 5, 6] rfl))) (fun h0 => ?_)
  refine lv_aload_n hx hb dL_law_1025 rfl (lv_at hl 5 rfl) ?_
  refine lv_iconst (v := (0 : Int32)) hx hb dL_law_1026 (by decide) ?_
  refine l_out h13 F hW dL_law_1027 ?_
  rw [hval h0]
  refine lv_iload hx hb dL_law_1028 (lv_at hl 0 rfl) ?_
  refine lv_i2l hx hb dL_law_1030 rfl ?_
  refine W.lcmp hx hb dL_law_1031 ?_
  rw [cmp_0]
  exact lv_if_eq (tgt := 1037) hx hb dL_law_1032 (by decide) (fun _ => lv_goto (tgt := 2642) hx hb dL_law_1037 (by decide) (kk G μ2 H locs ls h13 F hIV hW hS (lv_sub hl [2, 3, 4, 5, 6] rfl))) (fun q => absurd rfl q)
set_option maxHeartbeats 4000000 in
set_option maxRecDepth 100000 in
theorem s_sectionAt (hlT : l.stackTraces = false) (hB : lwB p s m args meth c sb L xs i cells slots G μ H locs ls) (kk : lwK p l e s m args below meth c sb i cells slots Q) : W p l e room_1 s m args below meth c H locs cells slots Q (F0 m 984 ls []) := by
  obtain ⟨h13, F, hIV, hW, hS, hl, hX, hsb, hin, hc1, hc2⟩ := hB
  have hx := F.1
  have hb := F.2.1
  replace hl : lv_has ls 7 [(0, .ref sb), (1, .ref (s.heap.size + 0)), (2, .ref (s.heap.size + 306)), (3, .ref (s.heap.size + 331)), (4, .int i)] := hl
  obtain ⟨x, v, μ2, hc, hd, hag, hIV2⟩ := i_sectionAt (n := 120000) (Nat.le_refl _) hIV (xs (i + 1).toNatClampNeg)
  refine lv_aload_n hx hb dL_law_984 rfl (lv_at hl 1 rfl) ?_
  refine l_arg (k0 := 0) (k4 := 4) (t := 1) hx hb hX hsb hS hl rfl rfl (hin 1 (by decide)) dL_law_985 dL_law_986 dL_law_988 (by decide) dL_law_989 dL_law_990 ?_
  refine lv_aload_n hx hb dL_law_991 rfl (lv_at hl 3 rfl) ?_
  cases x with
  | inl e9 =>
    obtain ⟨j, hj, hth⟩ := hag
    match j, hj, hth with
    | 0, hj, hth =>
      have e8 : e9 = 2 := (Option.some.inj (show some 2 = some e9 from hj)).symm
      subst e8
      exact l_call (c_L_sectionAt_x2 hlT h13 hc) ⟨rfl, rfl⟩ q_1172 q_0 q_1173 ⟨by decide +kernel, by decide +kernel, (show (parseMethodDescriptor yL_sectionAt.desc).map (fun d => d.parameters.length) = some 3 by decide +kernel)⟩ F q_1171 ⟨Nat.le_of_ble_eq_true rfl, Nat.le_of_ble_eq_true rfl, by omega, by omega⟩ hW hS hl.1 (Nat.le_of_ble_eq_true rfl) rfl dL_law_992 (fun n H locs hn hW hS => W.widen (by omega) (by omega) (t_sectionAt (gs_13.trans h13) (FX_gs F) hW hS hl hX hsb hin hc1 hc2 hd hIV2 (hth.trans (show jv (((0 : Nat) : Int) + 1) = 1 by decide)) (fun q => absurd q (by decide)) kk))
    | j + 1, hj, _ => exact absurd (show (none : Option Nat) = some e9 from hj) (fun q => nomatch q)
  | inr r =>
    obtain ⟨hth, hv⟩ := hag
    subst hv
    exact l_call (c_L_sectionAt_ok hlT h13 hc) ⟨rfl, rfl⟩ q_1172 q_0 q_1173 ⟨by decide +kernel, by decide +kernel, (show (parseMethodDescriptor yL_sectionAt.desc).map (fun d => d.parameters.length) = some 3 by decide +kernel)⟩ F q_1171 ⟨Nat.le_of_ble_eq_true rfl, Nat.le_of_ble_eq_true rfl, by omega, by omega⟩ hW hS hl.1 (Nat.le_of_ble_eq_true rfl) rfl dL_law_992 (fun n H locs hn hW hS => W.widen (by omega) (by omega) (t_sectionAt (gs_13.trans h13) (FX_gs F) hW hS hl hX hsb hin hc1 hc2 hd hIV2 (hth.trans (show jv 0 = 0 by decide)) (fun _ => hn _ rfl) kk))
set_option maxHeartbeats 4000000 in
set_option maxRecDepth 100000 in
theorem t_firstLine {code9 v : Int32} (h13 : G.2.2.2 13 = 1) (F : FX (fg G) s.heap.size RL cL_law 7 p s m args meth c) (hW : WH (fg G) s.heap.size μ1 H) (hS : va_S (fb s.heap.size) s.heap H locs) (hl : lv_has ls 7 [(0, .ref sb), (1, .ref (s.heap.size + 0)), (2, .ref (s.heap.size + 306)), (3, .ref (s.heap.size + 331)), (4, .int i)]) (hX : va_X sb L xs s s.heap) (hsb : sb < s.heap.size) (hin : ∀ t : Int32, t ∈ [(1 : Int32), 2, 3, 4, 5] → vp_in (i + t) L) (hc1 : cells + 4 ≤ room_1.cells) (hc2 : slots + 24 ≤ room_1.slots)
    (hd : sh_X12_firstLine 120000 (xs (i + 1).toNatClampNeg) μ1 = some (v, μ2)) (hIV : IV μ2) (hth : μ2.1 306 0 = code9) (hval : code9 = 0 → Int64.ofNat (G.2.2.2 14) = v.toInt64) (kk : lwK p l e s m args below meth c sb i cells slots Q) : W p l e room_1 s m args below meth c H locs (cells + 4) (slots + 24) Q (F0 m 1051 ls [.int code9]) := by
  have hx := F.1
  have hb := F.2.1
  refine lv_istore (lv' := [(5, .int code9), (0, .ref sb), (1, .ref (s.heap.size + 0)), (2, .ref (s.heap.size + 306)), (3, .ref (s.heap.size + 331)), (4, .int i)]) hx hb dL_law_1051 hl (by decide) rfl (fun ls hl => ?_)
  refine lv_aload_n hx hb dL_law_1053 rfl (lv_at hl 3 rfl) ?_
  refine l_arg (k0 := 1) (k4 := 5) (t := 1) hx hb hX hsb hS hl rfl rfl (hin 1 (by decide)) dL_law_1054 dL_law_1055 dL_law_1057 (by decide) dL_law_1058 dL_law_1059 ?_
  refine k_X12_firstLine F hd q_1921 ⟨Nat.le_of_ble_eq_true rfl, Nat.le_of_ble_eq_true rfl, by omega, by omega⟩ hW hS hl.1 (Nat.le_of_ble_eq_true rfl) dL_law_1060 (fun H locs hW hS => ?_)
  refine lv_istore (lv' := [(6, .int v), (5, .int code9), (0, .ref sb), (1, .ref (s.heap.size + 0)), (2, .ref (s.heap.size + 306)), (3, .ref (s.heap.size + 331)), (4, .int i)]) hx hb dL_law_1063 hl (by decide) rfl (fun ls hl => ?_)
  refine lv_aload_n hx hb dL_law_1065 rfl (lv_at hl 4 rfl) ?_
  refine k_X12_thrown F (show sh_X12_thrown μ2 = some code9 from congrArg some hth) q_1457 ⟨Nat.le_of_ble_eq_true rfl, Nat.le_of_ble_eq_true rfl, by omega, by omega⟩ hW hS hl.1 (Nat.le_of_ble_eq_true rfl) dL_law_1066 (fun H locs hW hS => ?_)
  refine lv_iload hx hb dL_law_1069 (lv_at hl 1 rfl) ?_
  refine lv_icmp_eq (tgt := 1076) hx hb dL_law_1071 (by decide) (fun _ => ?_) (fun q => absurd rfl q)
  refine lv_iload hx hb dL_law_1076 (lv_at hl 1 rfl) ?_
  refine lv_if_ne (tgt := 1093) hx hb dL_law_1078 (by decide) (fun _ => lv_goto (tgt := 2642) hx hb dL_law_1093 (by decide) (kk G μ2 H locs ls h13 F hIV hW hS (lv_sub hl [2, 3, 4, 5, 6] rfl))) (fun h0 => ?_)
  refine lv_aload_n hx hb dL_law_1081 rfl (lv_at hl 5 rfl) ?_
  refine lv_iconst (v := (0 : Int32)) hx hb dL_law_1082 (by decide) ?_
  refine l_out h13 F hW dL_law_1083 ?_
  rw [hval h0]
  refine lv_iload hx hb dL_law_1084 (lv_at hl 0 rfl) ?_
  refine lv_i2l hx hb dL_law_1086 rfl ?_
  refine W.lcmp hx hb dL_law_1087 ?_
  rw [cmp_0]
  exact lv_if_eq (tgt := 1093) hx hb dL_law_1088 (by decide) (fun _ => lv_goto (tgt := 2642) hx hb dL_law_1093 (by decide) (kk G μ2 H locs ls h13 F hIV hW hS (lv_sub hl [2, 3, 4, 5, 6] rfl))) (fun q => absurd rfl q)
set_option maxHeartbeats 4000000 in
set_option maxRecDepth 100000 in
theorem s_firstLine (hlT : l.stackTraces = false) (hB : lwB p s m args meth c sb L xs i cells slots G μ H locs ls) (kk : lwK p l e s m args below meth c sb i cells slots Q) : W p l e room_1 s m args below meth c H locs cells slots Q (F0 m 1040 ls []) := by
  obtain ⟨h13, F, hIV, hW, hS, hl, hX, hsb, hin, hc1, hc2⟩ := hB
  have hx := F.1
  have hb := F.2.1
  replace hl : lv_has ls 7 [(0, .ref sb), (1, .ref (s.heap.size + 0)), (2, .ref (s.heap.size + 306)), (3, .ref (s.heap.size + 331)), (4, .int i)] := hl
  obtain ⟨x, v, μ2, hc, hd, hag, hIV2⟩ := i_firstLine (n := 120000) (Nat.le_refl _) hIV (xs (i + 1).toNatClampNeg)
  refine lv_aload_n hx hb dL_law_1040 rfl (lv_at hl 1 rfl) ?_
  refine l_arg (k0 := 0) (k4 := 4) (t := 1) hx hb hX hsb hS hl rfl rfl (hin 1 (by decide)) dL_law_1041 dL_law_1042 dL_law_1044 (by decide) dL_law_1045 dL_law_1046 ?_
  refine lv_aload_n hx hb dL_law_1047 rfl (lv_at hl 3 rfl) ?_
  cases x with
  | inl e9 =>
    obtain ⟨j, hj, hth⟩ := hag
    match j, hj, hth with
    | 0, hj, hth =>
      have e8 : e9 = 2 := (Option.some.inj (show some 2 = some e9 from hj)).symm
      subst e8
      exact l_call (c_L_firstLine_x2 hlT h13 hc) ⟨rfl, rfl⟩ q_1180 q_0 q_1181 ⟨by decide +kernel, by decide +kernel, (show (parseMethodDescriptor yL_firstLine.desc).map (fun d => d.parameters.length) = some 3 by decide +kernel)⟩ F q_1179 ⟨Nat.le_of_ble_eq_true rfl, Nat.le_of_ble_eq_true rfl, by omega, by omega⟩ hW hS hl.1 (Nat.le_of_ble_eq_true rfl) rfl dL_law_1048 (fun n H locs hn hW hS => W.widen (by omega) (by omega) (t_firstLine (gs_13.trans h13) (FX_gs F) hW hS hl hX hsb hin hc1 hc2 hd hIV2 (hth.trans (show jv (((0 : Nat) : Int) + 1) = 1 by decide)) (fun q => absurd q (by decide)) kk))
    | j + 1, hj, _ => exact absurd (show (none : Option Nat) = some e9 from hj) (fun q => nomatch q)
  | inr r =>
    obtain ⟨hth, hv⟩ := hag
    subst hv
    exact l_call (c_L_firstLine_ok hlT h13 hc) ⟨rfl, rfl⟩ q_1180 q_0 q_1181 ⟨by decide +kernel, by decide +kernel, (show (parseMethodDescriptor yL_firstLine.desc).map (fun d => d.parameters.length) = some 3 by decide +kernel)⟩ F q_1179 ⟨Nat.le_of_ble_eq_true rfl, Nat.le_of_ble_eq_true rfl, by omega, by omega⟩ hW hS hl.1 (Nat.le_of_ble_eq_true rfl) rfl dL_law_1048 (fun n H locs hn hW hS => W.widen (by omega) (by omega) (t_firstLine (gs_13.trans h13) (FX_gs F) hW hS hl hX hsb hin hc1 hc2 hd hIV2 (hth.trans (show jv 0 = 0 by decide)) (fun _ => hn _ rfl) kk))
set_option maxHeartbeats 4000000 in
set_option maxRecDepth 100000 in
theorem t_lineCount {code9 v : Int32} (h13 : G.2.2.2 13 = 1) (F : FX (fg G) s.heap.size RL cL_law 7 p s m args meth c) (hW : WH (fg G) s.heap.size μ1 H) (hS : va_S (fb s.heap.size) s.heap H locs) (hl : lv_has ls 7 [(0, .ref sb), (1, .ref (s.heap.size + 0)), (2, .ref (s.heap.size + 306)), (3, .ref (s.heap.size + 331)), (4, .int i)]) (hX : va_X sb L xs s s.heap) (hsb : sb < s.heap.size) (hin : ∀ t : Int32, t ∈ [(1 : Int32), 2, 3, 4, 5] → vp_in (i + t) L) (hc1 : cells + 4 ≤ room_1.cells) (hc2 : slots + 24 ≤ room_1.slots)
    (hd : sh_X12_lineCount 120000 (xs (i + 1).toNatClampNeg) μ1 = some (v, μ2)) (hIV : IV μ2) (hth : μ2.1 306 0 = code9) (hval : code9 = 0 → Int64.ofNat (G.2.2.2 14) = v.toInt64) (kk : lwK p l e s m args below meth c sb i cells slots Q) : W p l e room_1 s m args below meth c H locs (cells + 4) (slots + 24) Q (F0 m 1107 ls [.int code9]) := by
  have hx := F.1
  have hb := F.2.1
  refine lv_istore (lv' := [(5, .int code9), (0, .ref sb), (1, .ref (s.heap.size + 0)), (2, .ref (s.heap.size + 306)), (3, .ref (s.heap.size + 331)), (4, .int i)]) hx hb dL_law_1107 hl (by decide) rfl (fun ls hl => ?_)
  refine lv_aload_n hx hb dL_law_1109 rfl (lv_at hl 3 rfl) ?_
  refine l_arg (k0 := 1) (k4 := 5) (t := 1) hx hb hX hsb hS hl rfl rfl (hin 1 (by decide)) dL_law_1110 dL_law_1111 dL_law_1113 (by decide) dL_law_1114 dL_law_1115 ?_
  refine k_X12_lineCount F hd q_1925 ⟨Nat.le_of_ble_eq_true rfl, Nat.le_of_ble_eq_true rfl, by omega, by omega⟩ hW hS hl.1 (Nat.le_of_ble_eq_true rfl) dL_law_1116 (fun H locs hW hS => ?_)
  refine lv_istore (lv' := [(6, .int v), (5, .int code9), (0, .ref sb), (1, .ref (s.heap.size + 0)), (2, .ref (s.heap.size + 306)), (3, .ref (s.heap.size + 331)), (4, .int i)]) hx hb dL_law_1119 hl (by decide) rfl (fun ls hl => ?_)
  refine lv_aload_n hx hb dL_law_1121 rfl (lv_at hl 4 rfl) ?_
  refine k_X12_thrown F (show sh_X12_thrown μ2 = some code9 from congrArg some hth) q_1457 ⟨Nat.le_of_ble_eq_true rfl, Nat.le_of_ble_eq_true rfl, by omega, by omega⟩ hW hS hl.1 (Nat.le_of_ble_eq_true rfl) dL_law_1122 (fun H locs hW hS => ?_)
  refine lv_iload hx hb dL_law_1125 (lv_at hl 1 rfl) ?_
  refine lv_icmp_eq (tgt := 1132) hx hb dL_law_1127 (by decide) (fun _ => ?_) (fun q => absurd rfl q)
  refine lv_iload hx hb dL_law_1132 (lv_at hl 1 rfl) ?_
  refine lv_if_ne (tgt := 1149) hx hb dL_law_1134 (by decide) (fun _ => lv_goto (tgt := 2642) hx hb dL_law_1149 (by decide) (kk G μ2 H locs ls h13 F hIV hW hS (lv_sub hl [2, 3, 4, 5, 6] rfl))) (fun h0 => ?_)
  refine lv_aload_n hx hb dL_law_1137 rfl (lv_at hl 5 rfl) ?_
  refine lv_iconst (v := (0 : Int32)) hx hb dL_law_1138 (by decide) ?_
  refine l_out h13 F hW dL_law_1139 ?_
  rw [hval h0]
  refine lv_iload hx hb dL_law_1140 (lv_at hl 0 rfl) ?_
  refine lv_i2l hx hb dL_law_1142 rfl ?_
  refine W.lcmp hx hb dL_law_1143 ?_
  rw [cmp_0]
  exact lv_if_eq (tgt := 1149) hx hb dL_law_1144 (by decide) (fun _ => lv_goto (tgt := 2642) hx hb dL_law_1149 (by decide) (kk G μ2 H locs ls h13 F hIV hW hS (lv_sub hl [2, 3, 4, 5, 6] rfl))) (fun q => absurd rfl q)
set_option maxHeartbeats 4000000 in
set_option maxRecDepth 100000 in
theorem s_lineCount (hlT : l.stackTraces = false) (hB : lwB p s m args meth c sb L xs i cells slots G μ H locs ls) (kk : lwK p l e s m args below meth c sb i cells slots Q) : W p l e room_1 s m args below meth c H locs cells slots Q (F0 m 1096 ls []) := by
  obtain ⟨h13, F, hIV, hW, hS, hl, hX, hsb, hin, hc1, hc2⟩ := hB
  have hx := F.1
  have hb := F.2.1
  replace hl : lv_has ls 7 [(0, .ref sb), (1, .ref (s.heap.size + 0)), (2, .ref (s.heap.size + 306)), (3, .ref (s.heap.size + 331)), (4, .int i)] := hl
  obtain ⟨x, v, μ2, hc, hd, hag, hIV2⟩ := i_lineCount (n := 120000) (Nat.le_refl _) hIV (xs (i + 1).toNatClampNeg)
  refine lv_aload_n hx hb dL_law_1096 rfl (lv_at hl 1 rfl) ?_
  refine l_arg (k0 := 0) (k4 := 4) (t := 1) hx hb hX hsb hS hl rfl rfl (hin 1 (by decide)) dL_law_1097 dL_law_1098 dL_law_1100 (by decide) dL_law_1101 dL_law_1102 ?_
  refine lv_aload_n hx hb dL_law_1103 rfl (lv_at hl 3 rfl) ?_
  cases x with
  | inl e9 =>
    obtain ⟨j, hj, hth⟩ := hag
    match j, hj, hth with
    | 0, hj, hth =>
      have e8 : e9 = 2 := (Option.some.inj (show some 2 = some e9 from hj)).symm
      subst e8
      exact l_call (c_L_lineCount_x2 hlT h13 hc) ⟨rfl, rfl⟩ q_1187 q_0 q_1188 ⟨by decide +kernel, by decide +kernel, (show (parseMethodDescriptor yL_lineCount.desc).map (fun d => d.parameters.length) = some 3 by decide +kernel)⟩ F q_1186 ⟨Nat.le_of_ble_eq_true rfl, Nat.le_of_ble_eq_true rfl, by omega, by omega⟩ hW hS hl.1 (Nat.le_of_ble_eq_true rfl) rfl dL_law_1104 (fun n H locs hn hW hS => W.widen (by omega) (by omega) (t_lineCount (gs_13.trans h13) (FX_gs F) hW hS hl hX hsb hin hc1 hc2 hd hIV2 (hth.trans (show jv (((0 : Nat) : Int) + 1) = 1 by decide)) (fun q => absurd q (by decide)) kk))
    | j + 1, hj, _ => exact absurd (show (none : Option Nat) = some e9 from hj) (fun q => nomatch q)
  | inr r =>
    obtain ⟨hth, hv⟩ := hag
    subst hv
    exact l_call (c_L_lineCount_ok hlT h13 hc) ⟨rfl, rfl⟩ q_1187 q_0 q_1188 ⟨by decide +kernel, by decide +kernel, (show (parseMethodDescriptor yL_lineCount.desc).map (fun d => d.parameters.length) = some 3 by decide +kernel)⟩ F q_1186 ⟨Nat.le_of_ble_eq_true rfl, Nat.le_of_ble_eq_true rfl, by omega, by omega⟩ hW hS hl.1 (Nat.le_of_ble_eq_true rfl) rfl dL_law_1104 (fun n H locs hn hW hS => W.widen (by omega) (by omega) (t_lineCount (gs_13.trans h13) (FX_gs F) hW hS hl hX hsb hin hc1 hc2 hd hIV2 (hth.trans (show jv 0 = 0 by decide)) (fun _ => hn _ rfl) kk))
set_option maxHeartbeats 4000000 in
set_option maxRecDepth 100000 in
theorem t_line {code9 v : Int32} (h13 : G.2.2.2 13 = 1) (F : FX (fg G) s.heap.size RL cL_law 7 p s m args meth c) (hW : WH (fg G) s.heap.size μ1 H) (hS : va_S (fb s.heap.size) s.heap H locs) (hl : lv_has ls 7 [(0, .ref sb), (1, .ref (s.heap.size + 0)), (2, .ref (s.heap.size + 306)), (3, .ref (s.heap.size + 331)), (4, .int i)]) (hX : va_X sb L xs s s.heap) (hsb : sb < s.heap.size) (hin : ∀ t : Int32, t ∈ [(1 : Int32), 2, 3, 4, 5] → vp_in (i + t) L) (hc1 : cells + 4 ≤ room_1.cells) (hc2 : slots + 24 ≤ room_1.slots)
    (hd : sh_X12_line 120000 (xs (i + 1).toNatClampNeg) (xs (i + 2).toNatClampNeg) μ1 = some (v, μ2)) (hIV : IV μ2) (hth : μ2.1 306 0 = code9) (hval : code9 = 0 → Int64.ofNat (G.2.2.2 14) = v.toInt64) (kk : lwK p l e s m args below meth c sb i cells slots Q) : W p l e room_1 s m args below meth c H locs (cells + 4) (slots + 24) Q (F0 m 1169 ls [.int code9]) := by
  have hx := F.1
  have hb := F.2.1
  refine lv_istore (lv' := [(5, .int code9), (0, .ref sb), (1, .ref (s.heap.size + 0)), (2, .ref (s.heap.size + 306)), (3, .ref (s.heap.size + 331)), (4, .int i)]) hx hb dL_law_1169 hl (by decide) rfl (fun ls hl => ?_)
  refine lv_aload_n hx hb dL_law_1171 rfl (lv_at hl 3 rfl) ?_
  refine l_arg (k0 := 1) (k4 := 5) (t := 1) hx hb hX hsb hS hl rfl rfl (hin 1 (by decide)) dL_law_1172 dL_law_1173 dL_law_1175 (by decide) dL_law_1176 dL_law_1177 ?_
  refine l_arg (k0 := 1) (k4 := 5) (t := 2) hx hb hX hsb hS hl rfl rfl (hin 2 (by decide)) dL_law_1178 dL_law_1179 dL_law_1181 (by decide) dL_law_1182 dL_law_1183 ?_
  refine k_X12_line F hd q_1933 ⟨Nat.le_of_ble_eq_true rfl, Nat.le_of_ble_eq_true rfl, by omega, by omega⟩ hW hS hl.1 (Nat.le_of_ble_eq_true rfl) dL_law_1184 (fun H locs hW hS => ?_)
  refine lv_istore (lv' := [(6, .int v), (5, .int code9), (0, .ref sb), (1, .ref (s.heap.size + 0)), (2, .ref (s.heap.size + 306)), (3, .ref (s.heap.size + 331)), (4, .int i)]) hx hb dL_law_1187 hl (by decide) rfl (fun ls hl => ?_)
  refine lv_aload_n hx hb dL_law_1189 rfl (lv_at hl 4 rfl) ?_
  refine k_X12_thrown F (show sh_X12_thrown μ2 = some code9 from congrArg some hth) q_1457 ⟨Nat.le_of_ble_eq_true rfl, Nat.le_of_ble_eq_true rfl, by omega, by omega⟩ hW hS hl.1 (Nat.le_of_ble_eq_true rfl) dL_law_1190 (fun H locs hW hS => ?_)
  refine lv_iload hx hb dL_law_1193 (lv_at hl 1 rfl) ?_
  refine lv_icmp_eq (tgt := 1200) hx hb dL_law_1195 (by decide) (fun _ => ?_) (fun q => absurd rfl q)
  refine lv_iload hx hb dL_law_1200 (lv_at hl 1 rfl) ?_
  refine lv_if_ne (tgt := 1217) hx hb dL_law_1202 (by decide) (fun _ => lv_goto (tgt := 2642) hx hb dL_law_1217 (by decide) (kk G μ2 H locs ls h13 F hIV hW hS (lv_sub hl [2, 3, 4, 5, 6] rfl))) (fun h0 => ?_)
  refine lv_aload_n hx hb dL_law_1205 rfl (lv_at hl 5 rfl) ?_
  refine lv_iconst (v := (0 : Int32)) hx hb dL_law_1206 (by decide) ?_
  refine l_out h13 F hW dL_law_1207 ?_
  rw [hval h0]
  refine lv_iload hx hb dL_law_1208 (lv_at hl 0 rfl) ?_
  refine lv_i2l hx hb dL_law_1210 rfl ?_
  refine W.lcmp hx hb dL_law_1211 ?_
  rw [cmp_0]
  exact lv_if_eq (tgt := 1217) hx hb dL_law_1212 (by decide) (fun _ => lv_goto (tgt := 2642) hx hb dL_law_1217 (by decide) (kk G μ2 H locs ls h13 F hIV hW hS (lv_sub hl [2, 3, 4, 5, 6] rfl))) (fun q => absurd rfl q)
set_option maxHeartbeats 4000000 in
set_option maxRecDepth 100000 in
theorem s_line (hlT : l.stackTraces = false) (hB : lwB p s m args meth c sb L xs i cells slots G μ H locs ls) (kk : lwK p l e s m args below meth c sb i cells slots Q) : W p l e room_1 s m args below meth c H locs cells slots Q (F0 m 1152 ls []) := by
  obtain ⟨h13, F, hIV, hW, hS, hl, hX, hsb, hin, hc1, hc2⟩ := hB
  have hx := F.1
  have hb := F.2.1
  replace hl : lv_has ls 7 [(0, .ref sb), (1, .ref (s.heap.size + 0)), (2, .ref (s.heap.size + 306)), (3, .ref (s.heap.size + 331)), (4, .int i)] := hl
  obtain ⟨x, v, μ2, hc, hd, hag, hIV2⟩ := i_line (n := 120000) (Nat.le_refl _) hIV (xs (i + 1).toNatClampNeg) (xs (i + 2).toNatClampNeg)
  refine lv_aload_n hx hb dL_law_1152 rfl (lv_at hl 1 rfl) ?_
  refine l_arg (k0 := 0) (k4 := 4) (t := 1) hx hb hX hsb hS hl rfl rfl (hin 1 (by decide)) dL_law_1153 dL_law_1154 dL_law_1156 (by decide) dL_law_1157 dL_law_1158 ?_
  refine l_arg (k0 := 0) (k4 := 4) (t := 2) hx hb hX hsb hS hl rfl rfl (hin 2 (by decide)) dL_law_1159 dL_law_1160 dL_law_1162 (by decide) dL_law_1163 dL_law_1164 ?_
  refine lv_aload_n hx hb dL_law_1165 rfl (lv_at hl 3 rfl) ?_
  cases x with
  | inl e9 =>
    obtain ⟨j, hj, hth⟩ := hag
    match j, hj, hth with
    | 0, hj, hth =>
      have e8 : e9 = 2 := (Option.some.inj (show some 2 = some e9 from hj)).symm
      subst e8
      exact l_call (c_L_line_x2 hlT h13 hc) ⟨rfl, rfl⟩ q_1194 q_0 q_1195 ⟨by decide +kernel, by decide +kernel, (show (parseMethodDescriptor yL_line.desc).map (fun d => d.parameters.length) = some 4 by decide +kernel)⟩ F q_1193 ⟨Nat.le_of_ble_eq_true rfl, Nat.le_of_ble_eq_true rfl, by omega, by omega⟩ hW hS hl.1 (Nat.le_of_ble_eq_true rfl) rfl dL_law_1166 (fun n H locs hn hW hS => W.widen (by omega) (by omega) (t_line (gs_13.trans h13) (FX_gs F) hW hS hl hX hsb hin hc1 hc2 hd hIV2 (hth.trans (show jv (((0 : Nat) : Int) + 1) = 1 by decide)) (fun q => absurd q (by decide)) kk))
    | 1, hj, hth =>
      have e8 : e9 = 1 := (Option.some.inj (show some 1 = some e9 from hj)).symm
      subst e8
      exact l_call (c_L_line_x1 hlT h13 hc) ⟨rfl, rfl⟩ q_1194 q_0 q_1195 ⟨by decide +kernel, by decide +kernel, (show (parseMethodDescriptor yL_line.desc).map (fun d => d.parameters.length) = some 4 by decide +kernel)⟩ F q_1193 ⟨Nat.le_of_ble_eq_true rfl, Nat.le_of_ble_eq_true rfl, by omega, by omega⟩ hW hS hl.1 (Nat.le_of_ble_eq_true rfl) rfl dL_law_1166 (fun n H locs hn hW hS => W.widen (by omega) (by omega) (t_line (gs_13.trans h13) (FX_gs F) hW hS hl hX hsb hin hc1 hc2 hd hIV2 (hth.trans (show jv (((1 : Nat) : Int) + 1) = 2 by decide)) (fun q => absurd q (by decide)) kk))
    | j + 2, hj, _ => exact absurd (show (none : Option Nat) = some e9 from hj) (fun q => nomatch q)
  | inr r =>
    obtain ⟨hth, hv⟩ := hag
    subst hv
    exact l_call (c_L_line_ok hlT h13 hc) ⟨rfl, rfl⟩ q_1194 q_0 q_1195 ⟨by decide +kernel, by decide +kernel, (show (parseMethodDescriptor yL_line.desc).map (fun d => d.parameters.length) = some 4 by decide +kernel)⟩ F q_1193 ⟨Nat.le_of_ble_eq_true rfl, Nat.le_of_ble_eq_true rfl, by omega, by omega⟩ hW hS hl.1 (Nat.le_of_ble_eq_true rfl) rfl dL_law_1166 (fun n H locs hn hW hS => W.widen (by omega) (by omega) (t_line (gs_13.trans h13) (FX_gs F) hW hS hl hX hsb hin hc1 hc2 hd hIV2 (hth.trans (show jv 0 = 0 by decide)) (fun _ => hn _ rfl) kk))
set_option maxHeartbeats 4000000 in
set_option maxRecDepth 100000 in
theorem t_dotCount {code9 v : Int32} (h13 : G.2.2.2 13 = 1) (F : FX (fg G) s.heap.size RL cL_law 7 p s m args meth c) (hW : WH (fg G) s.heap.size μ1 H) (hS : va_S (fb s.heap.size) s.heap H locs) (hl : lv_has ls 7 [(0, .ref sb), (1, .ref (s.heap.size + 0)), (2, .ref (s.heap.size + 306)), (3, .ref (s.heap.size + 331)), (4, .int i)]) (hX : va_X sb L xs s s.heap) (hsb : sb < s.heap.size) (hin : ∀ t : Int32, t ∈ [(1 : Int32), 2, 3, 4, 5] → vp_in (i + t) L) (hc1 : cells + 4 ≤ room_1.cells) (hc2 : slots + 24 ≤ room_1.slots)
    (hd : sh_X12_dotCount 120000 (xs (i + 1).toNatClampNeg) μ1 = some (v, μ2)) (hIV : IV μ2) (hth : μ2.1 306 0 = code9) (hval : code9 = 0 → Int64.ofNat (G.2.2.2 14) = v.toInt64) (kk : lwK p l e s m args below meth c sb i cells slots Q) : W p l e room_1 s m args below meth c H locs (cells + 4) (slots + 24) Q (F0 m 1231 ls [.int code9]) := by
  have hx := F.1
  have hb := F.2.1
  refine lv_istore (lv' := [(5, .int code9), (0, .ref sb), (1, .ref (s.heap.size + 0)), (2, .ref (s.heap.size + 306)), (3, .ref (s.heap.size + 331)), (4, .int i)]) hx hb dL_law_1231 hl (by decide) rfl (fun ls hl => ?_)
  refine lv_aload_n hx hb dL_law_1233 rfl (lv_at hl 3 rfl) ?_
  refine l_arg (k0 := 1) (k4 := 5) (t := 1) hx hb hX hsb hS hl rfl rfl (hin 1 (by decide)) dL_law_1234 dL_law_1235 dL_law_1237 (by decide) dL_law_1238 dL_law_1239 ?_
  refine k_X12_dotCount F hd q_1942 ⟨Nat.le_of_ble_eq_true rfl, Nat.le_of_ble_eq_true rfl, by omega, by omega⟩ hW hS hl.1 (Nat.le_of_ble_eq_true rfl) dL_law_1240 (fun H locs hW hS => ?_)
  refine lv_istore (lv' := [(6, .int v), (5, .int code9), (0, .ref sb), (1, .ref (s.heap.size + 0)), (2, .ref (s.heap.size + 306)), (3, .ref (s.heap.size + 331)), (4, .int i)]) hx hb dL_law_1243 hl (by decide) rfl (fun ls hl => ?_)
  refine lv_aload_n hx hb dL_law_1245 rfl (lv_at hl 4 rfl) ?_
  refine k_X12_thrown F (show sh_X12_thrown μ2 = some code9 from congrArg some hth) q_1457 ⟨Nat.le_of_ble_eq_true rfl, Nat.le_of_ble_eq_true rfl, by omega, by omega⟩ hW hS hl.1 (Nat.le_of_ble_eq_true rfl) dL_law_1246 (fun H locs hW hS => ?_)
  refine lv_iload hx hb dL_law_1249 (lv_at hl 1 rfl) ?_
  refine lv_icmp_eq (tgt := 1256) hx hb dL_law_1251 (by decide) (fun _ => ?_) (fun q => absurd rfl q)
  refine lv_iload hx hb dL_law_1256 (lv_at hl 1 rfl) ?_
  refine lv_if_ne (tgt := 1273) hx hb dL_law_1258 (by decide) (fun _ => lv_goto (tgt := 2642) hx hb dL_law_1273 (by decide) (kk G μ2 H locs ls h13 F hIV hW hS (lv_sub hl [2, 3, 4, 5, 6] rfl))) (fun h0 => ?_)
  refine lv_aload_n hx hb dL_law_1261 rfl (lv_at hl 5 rfl) ?_
  refine lv_iconst (v := (0 : Int32)) hx hb dL_law_1262 (by decide) ?_
  refine l_out h13 F hW dL_law_1263 ?_
  rw [hval h0]
  refine lv_iload hx hb dL_law_1264 (lv_at hl 0 rfl) ?_
  refine lv_i2l hx hb dL_law_1266 rfl ?_
  refine W.lcmp hx hb dL_law_1267 ?_
  rw [cmp_0]
  exact lv_if_eq (tgt := 1273) hx hb dL_law_1268 (by decide) (fun _ => lv_goto (tgt := 2642) hx hb dL_law_1273 (by decide) (kk G μ2 H locs ls h13 F hIV hW hS (lv_sub hl [2, 3, 4, 5, 6] rfl))) (fun q => absurd rfl q)
set_option maxHeartbeats 4000000 in
set_option maxRecDepth 100000 in
theorem s_dotCount (hlT : l.stackTraces = false) (hB : lwB p s m args meth c sb L xs i cells slots G μ H locs ls) (kk : lwK p l e s m args below meth c sb i cells slots Q) : W p l e room_1 s m args below meth c H locs cells slots Q (F0 m 1220 ls []) := by
  obtain ⟨h13, F, hIV, hW, hS, hl, hX, hsb, hin, hc1, hc2⟩ := hB
  have hx := F.1
  have hb := F.2.1
  replace hl : lv_has ls 7 [(0, .ref sb), (1, .ref (s.heap.size + 0)), (2, .ref (s.heap.size + 306)), (3, .ref (s.heap.size + 331)), (4, .int i)] := hl
  obtain ⟨x, v, μ2, hc, hd, hag, hIV2⟩ := i_dotCount (n := 120000) (Nat.le_refl _) hIV (xs (i + 1).toNatClampNeg)
  refine lv_aload_n hx hb dL_law_1220 rfl (lv_at hl 1 rfl) ?_
  refine l_arg (k0 := 0) (k4 := 4) (t := 1) hx hb hX hsb hS hl rfl rfl (hin 1 (by decide)) dL_law_1221 dL_law_1222 dL_law_1224 (by decide) dL_law_1225 dL_law_1226 ?_
  refine lv_aload_n hx hb dL_law_1227 rfl (lv_at hl 3 rfl) ?_
  cases x with
  | inl e9 =>
    obtain ⟨j, hj, hth⟩ := hag
    match j, hj, hth with
    | 0, hj, hth =>
      have e8 : e9 = 2 := (Option.some.inj (show some 2 = some e9 from hj)).symm
      subst e8
      exact l_call (c_L_dotCount_x2 hlT h13 hc) ⟨rfl, rfl⟩ q_1208 q_0 q_1209 ⟨by decide +kernel, by decide +kernel, (show (parseMethodDescriptor yL_dotCount.desc).map (fun d => d.parameters.length) = some 3 by decide +kernel)⟩ F q_1207 ⟨Nat.le_of_ble_eq_true rfl, Nat.le_of_ble_eq_true rfl, by omega, by omega⟩ hW hS hl.1 (Nat.le_of_ble_eq_true rfl) rfl dL_law_1228 (fun n H locs hn hW hS => W.widen (by omega) (by omega) (t_dotCount (gs_13.trans h13) (FX_gs F) hW hS hl hX hsb hin hc1 hc2 hd hIV2 (hth.trans (show jv (((0 : Nat) : Int) + 1) = 1 by decide)) (fun q => absurd q (by decide)) kk))
    | 1, hj, hth =>
      have e8 : e9 = 3 := (Option.some.inj (show some 3 = some e9 from hj)).symm
      subst e8
      exact l_call (c_L_dotCount_x3 hlT h13 hc) ⟨rfl, rfl⟩ q_1208 q_0 q_1209 ⟨by decide +kernel, by decide +kernel, (show (parseMethodDescriptor yL_dotCount.desc).map (fun d => d.parameters.length) = some 3 by decide +kernel)⟩ F q_1207 ⟨Nat.le_of_ble_eq_true rfl, Nat.le_of_ble_eq_true rfl, by omega, by omega⟩ hW hS hl.1 (Nat.le_of_ble_eq_true rfl) rfl dL_law_1228 (fun n H locs hn hW hS => W.widen (by omega) (by omega) (t_dotCount (gs_13.trans h13) (FX_gs F) hW hS hl hX hsb hin hc1 hc2 hd hIV2 (hth.trans (show jv (((1 : Nat) : Int) + 1) = 2 by decide)) (fun q => absurd q (by decide)) kk))
    | j + 2, hj, _ => exact absurd (show (none : Option Nat) = some e9 from hj) (fun q => nomatch q)
  | inr r =>
    obtain ⟨hth, hv⟩ := hag
    subst hv
    exact l_call (c_L_dotCount_ok hlT h13 hc) ⟨rfl, rfl⟩ q_1208 q_0 q_1209 ⟨by decide +kernel, by decide +kernel, (show (parseMethodDescriptor yL_dotCount.desc).map (fun d => d.parameters.length) = some 3 by decide +kernel)⟩ F q_1207 ⟨Nat.le_of_ble_eq_true rfl, Nat.le_of_ble_eq_true rfl, by omega, by omega⟩ hW hS hl.1 (Nat.le_of_ble_eq_true rfl) rfl dL_law_1228 (fun n H locs hn hW hS => W.widen (by omega) (by omega) (t_dotCount (gs_13.trans h13) (FX_gs F) hW hS hl hX hsb hin hc1 hc2 hd hIV2 (hth.trans (show jv 0 = 0 by decide)) (fun _ => hn _ rfl) kk))
end CASES
