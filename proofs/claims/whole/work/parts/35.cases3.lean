/-! the law's cases, on -/
section CASES
variable {p : Program} {l : Launch} {e : Env} {s : State} {m : MethodId} {args : Array Value} {below : List Frame} {meth : Method} {c : Code} {H : Heap} {locs : List Loc} {cells slots : Nat} {Q : State → Prop}
variable {ls : Array Slot} {G : Gt} {μ μ1 μ2 : Mm} {sb L : Nat} {xs : Nat → Int32} {i : Int32}
set_option maxHeartbeats 4000000 in
set_option maxRecDepth 100000 in
theorem t_setGrid {code9 v : Int32} (h13 : G.2.2.2 13 = 1) (F : FX (fg G) s.heap.size RL cL_law 7 p s m args meth c) (hW : WH (fg G) s.heap.size μ1 H) (hS : va_S (fb s.heap.size) s.heap H locs) (hl : lv_has ls 7 [(0, .ref sb), (1, .ref (s.heap.size + 0)), (2, .ref (s.heap.size + 306)), (3, .ref (s.heap.size + 331)), (4, .int i)]) (hX : va_X sb L xs s s.heap) (hsb : sb < s.heap.size) (hin : ∀ t : Int32, t ∈ [(1 : Int32), 2, 3, 4, 5] → vp_in (i + t) L) (hc1 : cells + 4 ≤ room_1.cells) (hc2 : slots + 24 ≤ room_1.slots)
    (hd : sh_X12_setGrid 120000 (xs (i + 1).toNatClampNeg) μ1 = some (v, μ2)) (hIV : IV μ2) (hth : μ2.1 306 0 = code9) (hval : code9 = 0 → Int64.ofNat (G.2.2.2 14) = v.toInt64) (kk : lwK p l e s m args below meth c sb i cells slots Q) : W p l e room_1 s m args below meth c H locs (cells + 4) (slots + 24) Q (F0 m 2030 ls [.int code9]) := by
  have hx := F.1
  have hb := F.2.1
  refine lv_istore (lv' := [(5, .int code9), (0, .ref sb), (1, .ref (s.heap.size + 0)), (2, .ref (s.heap.size + 306)), (3, .ref (s.heap.size + 331)), (4, .int i)]) hx hb dL_law_2030 hl (by decide) rfl (fun ls hl => ?_)
  refine lv_aload_n hx hb dL_law_2032 rfl (lv_at hl 3 rfl) ?_
  refine l_arg (k0 := 1) (k4 := 5) (t := 1) hx hb hX hsb hS hl rfl rfl (hin 1 (by decide)) dL_law_2033 dL_law_2034 dL_law_2036 (by decide) dL_law_2037 dL_law_2038 ?_
  refine k_X12_setGrid F hd q_2073 ⟨Nat.le_of_ble_eq_true rfl, Nat.le_of_ble_eq_true rfl, by omega, by omega⟩ hW hS hl.1 (Nat.le_of_ble_eq_true rfl) dL_law_2039 (fun H locs hW hS => ?_)
  refine lv_istore (lv' := [(6, .int v), (5, .int code9), (0, .ref sb), (1, .ref (s.heap.size + 0)), (2, .ref (s.heap.size + 306)), (3, .ref (s.heap.size + 331)), (4, .int i)]) hx hb dL_law_2042 hl (by decide) rfl (fun ls hl => ?_)
  refine lv_aload_n hx hb dL_law_2044 rfl (lv_at hl 4 rfl) ?_
  refine k_X12_thrown F (show sh_X12_thrown μ2 = some code9 from congrArg some hth) q_1457 ⟨Nat.le_of_ble_eq_true rfl, Nat.le_of_ble_eq_true rfl, by omega, by omega⟩ hW hS hl.1 (Nat.le_of_ble_eq_true rfl) dL_law_2045 (fun H locs hW hS => ?_)
  refine lv_iload hx hb dL_law_2048 (lv_at hl 1 rfl) ?_
  refine lv_icmp_eq (tgt := 2055) hx hb dL_law_2050 (by decide) (fun _ => ?_) (fun q => absurd rfl q)
  refine lv_iload hx hb dL_law_2055 (lv_at hl 1 rfl) ?_
  refine lv_if_ne (tgt := 2072) hx hb dL_law_2057 (by decide) (fun _ => lv_goto (tgt := 2642) hx hb dL_law_2072 (by decide) (kk G μ2 H locs ls h13 F hIV hW hS (lv_sub hl [2, 3, 4, 5, 6] rfl))) (fun h0 => ?_)
  refine lv_aload_n hx hb dL_law_2060 rfl (lv_at hl 5 rfl) ?_
  refine lv_iconst (v := (0 : Int32)) hx hb dL_law_2061 (by decide) ?_
  refine l_out h13 F hW dL_law_2062 ?_
  rw [hval h0]
  refine lv_iload hx hb dL_law_2063 (lv_at hl 0 rfl) ?_
  refine lv_i2l hx hb dL_law_2065 rfl ?_
  refine W.lcmp hx hb dL_law_2066 ?_
  rw [cmp_0]
  exact lv_if_eq (tgt := 2072) hx hb dL_law_2067 (by decide) (fun _ => lv_goto (tgt := 2642) hx hb dL_law_2072 (by decide) (kk G μ2 H locs ls h13 F hIV hW hS (lv_sub hl [2, 3, 4, 5, 6] rfl))) (fun q => absurd rfl q)
set_option maxHeartbeats 4000000 in
set_option maxRecDepth 100000 in
theorem s_setGrid (hlT : l.stackTraces = false) (hB : lwB p s m args meth c sb L xs i cells slots G μ H locs ls) (kk : lwK p l e s m args below meth c sb i cells slots Q) : W p l e room_1 s m args below meth c H locs cells slots Q (F0 m 2019 ls []) := by
  obtain ⟨h13, F, hIV, hW, hS, hl, hX, hsb, hin, hc1, hc2⟩ := hB
  have hx := F.1
  have hb := F.2.1
  replace hl : lv_has ls 7 [(0, .ref sb), (1, .ref (s.heap.size + 0)), (2, .ref (s.heap.size + 306)), (3, .ref (s.heap.size + 331)), (4, .int i)] := hl
  obtain ⟨x, μ1, v, μ2, hc, hd, hag, hIV2⟩ := i_setGrid (n := 120000) (Nat.le_refl _) hIV (xs (i + 1).toNatClampNeg)
  refine lv_aload_n hx hb dL_law_2019 rfl (lv_at hl 1 rfl) ?_
  refine l_arg (k0 := 0) (k4 := 4) (t := 1) hx hb hX hsb hS hl rfl rfl (hin 1 (by decide)) dL_law_2020 dL_law_2021 dL_law_2023 (by decide) dL_law_2024 dL_law_2025 ?_
  refine lv_aload_n hx hb dL_law_2026 rfl (lv_at hl 3 rfl) ?_
  cases x with
  | inl e9 =>
    obtain ⟨j, hj, hth⟩ := hag
    match j, hj, hth with
    | 0, hj, hth =>
      have e8 : e9 = 1 := (Option.some.inj (show some 1 = some e9 from hj)).symm
      subst e8
      exact l_call (c_L_setGrid_x1 hlT h13 hc) ⟨rfl, rfl⟩ q_1365 q_0 q_1366 ⟨by decide +kernel, by decide +kernel, (show (parseMethodDescriptor yL_setGrid.desc).map (fun d => d.parameters.length) = some 3 by decide +kernel)⟩ F q_1364 ⟨Nat.le_of_ble_eq_true rfl, Nat.le_of_ble_eq_true rfl, by omega, by omega⟩ hW hS hl.1 (Nat.le_of_ble_eq_true rfl) rfl dL_law_2027 (fun n H locs hn hW hS => W.widen (by omega) (by omega) (t_setGrid (gs_13.trans h13) (FX_gs F) hW hS hl hX hsb hin hc1 hc2 hd hIV2 (hth.trans (show jv (((0 : Nat) : Int) + 1) = 1 by decide)) (fun q => absurd q (by decide)) kk))
    | j + 1, hj, _ => exact absurd (show (none : Option Nat) = some e9 from hj) (fun q => nomatch q)
  | inr r =>
    obtain ⟨hth, hv⟩ := hag
    subst hv
    exact l_call (c_L_setGrid_ok hlT h13 hc) ⟨rfl, rfl⟩ q_1365 q_0 q_1366 ⟨by decide +kernel, by decide +kernel, (show (parseMethodDescriptor yL_setGrid.desc).map (fun d => d.parameters.length) = some 3 by decide +kernel)⟩ F q_1364 ⟨Nat.le_of_ble_eq_true rfl, Nat.le_of_ble_eq_true rfl, by omega, by omega⟩ hW hS hl.1 (Nat.le_of_ble_eq_true rfl) rfl dL_law_2027 (fun n H locs hn hW hS => W.widen (by omega) (by omega) (t_setGrid (gs_13.trans h13) (FX_gs F) hW hS hl hX hsb hin hc1 hc2 hd hIV2 (hth.trans (show jv 0 = 0 by decide)) (fun _ => hn _ rfl) kk))
set_option maxHeartbeats 4000000 in
set_option maxRecDepth 100000 in
theorem s_proof (hlT : l.stackTraces = false) (hB : lwB p s m args meth c sb L xs i cells slots G μ H locs ls) (kk : lwK p l e s m args below meth c sb i cells slots Q) : W p l e room_1 s m args below meth c H locs cells slots Q (F0 m 2116 ls []) := by
  obtain ⟨h13, F, hIV, hW, hS, hl, hX, hsb, hin, hc1, hc2⟩ := hB
  have hx := F.1
  have hb := F.2.1
  replace hl : lv_has ls 7 [(0, .ref sb), (1, .ref (s.heap.size + 0)), (2, .ref (s.heap.size + 306)), (3, .ref (s.heap.size + 331)), (4, .int i)] := hl
  obtain ⟨v, μ1, μ2, hc, hd, hIV2⟩ := i_proof (n := 120000) (Nat.le_refl _) hIV
  refine lv_aload_n hx hb dL_law_2116 rfl (lv_at hl 1 rfl) ?_
  refine k_X11_proof F hc q_875 ⟨Nat.le_of_ble_eq_true rfl, Nat.le_of_ble_eq_true rfl, by omega, by omega⟩ hW hS hl.1 (Nat.le_of_ble_eq_true rfl) dL_law_2117 (fun H locs hW hS => ?_)
  refine lv_aload_n hx hb dL_law_2120 rfl (lv_at hl 2 rfl) ?_
  refine k_X12_proof F hd q_2102 ⟨Nat.le_of_ble_eq_true rfl, Nat.le_of_ble_eq_true rfl, by omega, by omega⟩ hW hS hl.1 (Nat.le_of_ble_eq_true rfl) dL_law_2121 (fun H locs hW hS => ?_)
  exact lv_icmp_eq (tgt := 2642) hx hb dL_law_2124 (by decide) (fun _ => W.widen (by omega) (by omega) (kk G μ2 H locs ls h13 F hIV2 hW hS hl)) (fun q => absurd rfl q)
set_option maxHeartbeats 4000000 in
set_option maxRecDepth 100000 in
theorem s_toRead (hlT : l.stackTraces = false) (hB : lwB p s m args meth c sb L xs i cells slots G μ H locs ls) (kk : lwK p l e s m args below meth c sb i cells slots Q) : W p l e room_1 s m args below meth c H locs cells slots Q (F0 m 2129 ls []) := by
  obtain ⟨h13, F, hIV, hW, hS, hl, hX, hsb, hin, hc1, hc2⟩ := hB
  have hx := F.1
  have hb := F.2.1
  replace hl : lv_has ls 7 [(0, .ref sb), (1, .ref (s.heap.size + 0)), (2, .ref (s.heap.size + 306)), (3, .ref (s.heap.size + 331)), (4, .int i)] := hl
  obtain ⟨v, μ1, μ2, hc, hd, hIV2⟩ := i_toRead (n := 120000) (Nat.le_refl _) hIV
  refine lv_aload_n hx hb dL_law_2129 rfl (lv_at hl 1 rfl) ?_
  refine k_X11_toRead F hc q_947 ⟨Nat.le_of_ble_eq_true rfl, Nat.le_of_ble_eq_true rfl, by omega, by omega⟩ hW hS hl.1 (Nat.le_of_ble_eq_true rfl) dL_law_2130 (fun H locs hW hS => ?_)
  refine lv_aload_n hx hb dL_law_2133 rfl (lv_at hl 2 rfl) ?_
  refine k_X12_toRead F hd q_2082 ⟨Nat.le_of_ble_eq_true rfl, Nat.le_of_ble_eq_true rfl, by omega, by omega⟩ hW hS hl.1 (Nat.le_of_ble_eq_true rfl) dL_law_2134 (fun H locs hW hS => ?_)
  exact lv_icmp_eq (tgt := 2642) hx hb dL_law_2137 (by decide) (fun _ => W.widen (by omega) (by omega) (kk G μ2 H locs ls h13 F hIV2 hW hS hl)) (fun q => absurd rfl q)
set_option maxHeartbeats 4000000 in
set_option maxRecDepth 100000 in
theorem s_changedLines (hlT : l.stackTraces = false) (hB : lwB p s m args meth c sb L xs i cells slots G μ H locs ls) (kk : lwK p l e s m args below meth c sb i cells slots Q) : W p l e room_1 s m args below meth c H locs cells slots Q (F0 m 2142 ls []) := by
  obtain ⟨h13, F, hIV, hW, hS, hl, hX, hsb, hin, hc1, hc2⟩ := hB
  have hx := F.1
  have hb := F.2.1
  replace hl : lv_has ls 7 [(0, .ref sb), (1, .ref (s.heap.size + 0)), (2, .ref (s.heap.size + 306)), (3, .ref (s.heap.size + 331)), (4, .int i)] := hl
  obtain ⟨v, μ1, μ2, hc, hd, hIV2⟩ := i_changedLines (n := 120000) (Nat.le_refl _) hIV
  refine lv_aload_n hx hb dL_law_2142 rfl (lv_at hl 1 rfl) ?_
  refine k_X11_changedLines F hc q_951 ⟨Nat.le_of_ble_eq_true rfl, Nat.le_of_ble_eq_true rfl, by omega, by omega⟩ hW hS hl.1 (Nat.le_of_ble_eq_true rfl) dL_law_2143 (fun H locs hW hS => ?_)
  refine lv_aload_n hx hb dL_law_2146 rfl (lv_at hl 2 rfl) ?_
  refine k_X12_changedLines F hd q_2106 ⟨Nat.le_of_ble_eq_true rfl, Nat.le_of_ble_eq_true rfl, by omega, by omega⟩ hW hS hl.1 (Nat.le_of_ble_eq_true rfl) dL_law_2147 (fun H locs hW hS => ?_)
  exact lv_icmp_eq (tgt := 2642) hx hb dL_law_2150 (by decide) (fun _ => W.widen (by omega) (by omega) (kk G μ2 H locs ls h13 F hIV2 hW hS hl)) (fun q => absurd rfl q)
set_option maxHeartbeats 4000000 in
set_option maxRecDepth 100000 in
theorem t_slack {code9 v : Int32} (h13 : G.2.2.2 13 = 1) (F : FX (fg G) s.heap.size RL cL_law 7 p s m args meth c) (hW : WH (fg G) s.heap.size μ1 H) (hS : va_S (fb s.heap.size) s.heap H locs) (hl : lv_has ls 7 [(0, .ref sb), (1, .ref (s.heap.size + 0)), (2, .ref (s.heap.size + 306)), (3, .ref (s.heap.size + 331)), (4, .int i)]) (hX : va_X sb L xs s s.heap) (hsb : sb < s.heap.size) (hin : ∀ t : Int32, t ∈ [(1 : Int32), 2, 3, 4, 5] → vp_in (i + t) L) (hc1 : cells + 4 ≤ room_1.cells) (hc2 : slots + 24 ≤ room_1.slots)
    (hd : sh_X12_slack 120000 (xs (i + 1).toNatClampNeg) μ1 = some (v, μ2)) (hIV : IV μ2) (hth : μ2.1 306 0 = code9) (hval : code9 = 0 → Int64.ofNat (G.2.2.2 14) = v.toInt64) (kk : lwK p l e s m args below meth c sb i cells slots Q) : W p l e room_1 s m args below meth c H locs (cells + 4) (slots + 24) Q (F0 m 2166 ls [.int code9]) := by
  have hx := F.1
  have hb := F.2.1
  refine lv_istore (lv' := [(5, .int code9), (0, .ref sb), (1, .ref (s.heap.size + 0)), (2, .ref (s.heap.size + 306)), (3, .ref (s.heap.size + 331)), (4, .int i)]) hx hb dL_law_2166 hl (by decide) rfl (fun ls hl => ?_)
  refine lv_aload_n hx hb dL_law_2168 rfl (lv_at hl 3 rfl) ?_
  refine l_arg (k0 := 1) (k4 := 5) (t := 1) hx hb hX hsb hS hl rfl rfl (hin 1 (by decide)) dL_law_2169 dL_law_2170 dL_law_2172 (by decide) dL_law_2173 dL_law_2174 ?_
  refine k_X12_slack F hd q_2110 ⟨Nat.le_of_ble_eq_true rfl, Nat.le_of_ble_eq_true rfl, by omega, by omega⟩ hW hS hl.1 (Nat.le_of_ble_eq_true rfl) dL_law_2175 (fun H locs hW hS => ?_)
  refine lv_istore (lv' := [(6, .int v), (5, .int code9), (0, .ref sb), (1, .ref (s.heap.size + 0)), (2, .ref (s.heap.size + 306)), (3, .ref (s.heap.size + 331)), (4, .int i)]) hx hb dL_law_2178 hl (by decide) rfl (fun ls hl => ?_)
  refine lv_aload_n hx hb dL_law_2180 rfl (lv_at hl 4 rfl) ?_
  refine k_X12_thrown F (show sh_X12_thrown μ2 = some code9 from congrArg some hth) q_1457 ⟨Nat.le_of_ble_eq_true rfl, Nat.le_of_ble_eq_true rfl, by omega, by omega⟩ hW hS hl.1 (Nat.le_of_ble_eq_true rfl) dL_law_2181 (fun H locs hW hS => ?_)
  refine lv_iload hx hb dL_law_2184 (lv_at hl 1 rfl) ?_
  refine lv_icmp_eq (tgt := 2191) hx hb dL_law_2186 (by decide) (fun _ => ?_) (fun q => absurd rfl q)
  refine lv_iload hx hb dL_law_2191 (lv_at hl 1 rfl) ?_
  refine lv_if_ne (tgt := 2208) hx hb dL_law_2193 (by decide) (fun _ => lv_goto (tgt := 2642) hx hb dL_law_2208 (by decide) (kk G μ2 H locs ls h13 F hIV hW hS (lv_sub hl [2, 3, 4, 5, 6] rfl))) (fun h0 => ?_)
  refine lv_aload_n hx hb dL_law_2196 rfl (lv_at hl 5 rfl) ?_
  refine lv_iconst (v := (0 : Int32)) hx hb dL_law_2197 (by decide) ?_
  refine l_out h13 F hW dL_law_2198 ?_
  rw [hval h0]
  refine lv_iload hx hb dL_law_2199 (lv_at hl 0 rfl) ?_
  refine lv_i2l hx hb dL_law_2201 rfl ?_
  refine W.lcmp hx hb dL_law_2202 ?_
  rw [cmp_0]
  exact lv_if_eq (tgt := 2208) hx hb dL_law_2203 (by decide) (fun _ => lv_goto (tgt := 2642) hx hb dL_law_2208 (by decide) (kk G μ2 H locs ls h13 F hIV hW hS (lv_sub hl [2, 3, 4, 5, 6] rfl))) (fun q => absurd rfl q)
set_option maxHeartbeats 4000000 in
set_option maxRecDepth 100000 in
theorem s_slack (hlT : l.stackTraces = false) (hB : lwB p s m args meth c sb L xs i cells slots G μ H locs ls) (kk : lwK p l e s m args below meth c sb i cells slots Q) : W p l e room_1 s m args below meth c H locs cells slots Q (F0 m 2155 ls []) := by
  obtain ⟨h13, F, hIV, hW, hS, hl, hX, hsb, hin, hc1, hc2⟩ := hB
  have hx := F.1
  have hb := F.2.1
  replace hl : lv_has ls 7 [(0, .ref sb), (1, .ref (s.heap.size + 0)), (2, .ref (s.heap.size + 306)), (3, .ref (s.heap.size + 331)), (4, .int i)] := hl
  obtain ⟨x, μ1, v, μ2, hc, hd, hag, hIV2⟩ := i_slack (n := 120000) (Nat.le_refl _) hIV (xs (i + 1).toNatClampNeg)
  refine lv_aload_n hx hb dL_law_2155 rfl (lv_at hl 1 rfl) ?_
  refine l_arg (k0 := 0) (k4 := 4) (t := 1) hx hb hX hsb hS hl rfl rfl (hin 1 (by decide)) dL_law_2156 dL_law_2157 dL_law_2159 (by decide) dL_law_2160 dL_law_2161 ?_
  refine lv_aload_n hx hb dL_law_2162 rfl (lv_at hl 3 rfl) ?_
  cases x with
  | inl e9 =>
    obtain ⟨j, hj, hth⟩ := hag
    match j, hj, hth with
    | 0, hj, hth =>
      have e8 : e9 = 2 := (Option.some.inj (show some 2 = some e9 from hj)).symm
      subst e8
      exact l_call (c_L_slack_x2 hlT h13 hc) ⟨rfl, rfl⟩ q_1373 q_0 q_1374 ⟨by decide +kernel, by decide +kernel, (show (parseMethodDescriptor yL_slack.desc).map (fun d => d.parameters.length) = some 3 by decide +kernel)⟩ F q_1372 ⟨Nat.le_of_ble_eq_true rfl, Nat.le_of_ble_eq_true rfl, by omega, by omega⟩ hW hS hl.1 (Nat.le_of_ble_eq_true rfl) rfl dL_law_2163 (fun n H locs hn hW hS => W.widen (by omega) (by omega) (t_slack (gs_13.trans h13) (FX_gs F) hW hS hl hX hsb hin hc1 hc2 hd hIV2 (hth.trans (show jv (((0 : Nat) : Int) + 1) = 1 by decide)) (fun q => absurd q (by decide)) kk))
    | j + 1, hj, _ => exact absurd (show (none : Option Nat) = some e9 from hj) (fun q => nomatch q)
  | inr r =>
    obtain ⟨hth, hv⟩ := hag
    subst hv
    exact l_call (c_L_slack_ok hlT h13 hc) ⟨rfl, rfl⟩ q_1373 q_0 q_1374 ⟨by decide +kernel, by decide +kernel, (show (parseMethodDescriptor yL_slack.desc).map (fun d => d.parameters.length) = some 3 by decide +kernel)⟩ F q_1372 ⟨Nat.le_of_ble_eq_true rfl, Nat.le_of_ble_eq_true rfl, by omega, by omega⟩ hW hS hl.1 (Nat.le_of_ble_eq_true rfl) rfl dL_law_2163 (fun n H locs hn hW hS => W.widen (by omega) (by omega) (t_slack (gs_13.trans h13) (FX_gs F) hW hS hl hX hsb hin hc1 hc2 hd hIV2 (hth.trans (show jv 0 = 0 by decide)) (fun _ => hn _ rfl) kk))
set_option maxHeartbeats 4000000 in
set_option maxRecDepth 100000 in
theorem t_pagesIf {code9 v : Int32} (h13 : G.2.2.2 13 = 1) (F : FX (fg G) s.heap.size RL cL_law 7 p s m args meth c) (hW : WH (fg G) s.heap.size μ1 H) (hS : va_S (fb s.heap.size) s.heap H locs) (hl : lv_has ls 7 [(0, .ref sb), (1, .ref (s.heap.size + 0)), (2, .ref (s.heap.size + 306)), (3, .ref (s.heap.size + 331)), (4, .int i)]) (hX : va_X sb L xs s s.heap) (hsb : sb < s.heap.size) (hin : ∀ t : Int32, t ∈ [(1 : Int32), 2, 3, 4, 5] → vp_in (i + t) L) (hc1 : cells + 4 ≤ room_1.cells) (hc2 : slots + 24 ≤ room_1.slots)
    (hd : sh_X12_pagesIf 120000 (xs (i + 1).toNatClampNeg) (xs (i + 2).toNatClampNeg) μ1 = some (v, μ2)) (hIV : IV μ2) (hth : μ2.1 306 0 = code9) (hval : code9 = 0 → Int64.ofNat (G.2.2.2 14) = v.toInt64) (kk : lwK p l e s m args below meth c sb i cells slots Q) : W p l e room_1 s m args below meth c H locs (cells + 4) (slots + 24) Q (F0 m 2228 ls [.int code9]) := by
  have hx := F.1
  have hb := F.2.1
  refine lv_istore (lv' := [(5, .int code9), (0, .ref sb), (1, .ref (s.heap.size + 0)), (2, .ref (s.heap.size + 306)), (3, .ref (s.heap.size + 331)), (4, .int i)]) hx hb dL_law_2228 hl (by decide) rfl (fun ls hl => ?_)
  refine lv_aload_n hx hb dL_law_2230 rfl (lv_at hl 3 rfl) ?_
  refine l_arg (k0 := 1) (k4 := 5) (t := 1) hx hb hX hsb hS hl rfl rfl (hin 1 (by decide)) dL_law_2231 dL_law_2232 dL_law_2234 (by decide) dL_law_2235 dL_law_2236 ?_
  refine l_arg (k0 := 1) (k4 := 5) (t := 2) hx hb hX hsb hS hl rfl rfl (hin 2 (by decide)) dL_law_2237 dL_law_2238 dL_law_2240 (by decide) dL_law_2241 dL_law_2242 ?_
  refine k_X12_pagesIf F hd q_2118 ⟨Nat.le_of_ble_eq_true rfl, Nat.le_of_ble_eq_true rfl, by omega, by omega⟩ hW hS hl.1 (Nat.le_of_ble_eq_true rfl) dL_law_2243 (fun H locs hW hS => ?_)
  refine lv_istore (lv' := [(6, .int v), (5, .int code9), (0, .ref sb), (1, .ref (s.heap.size + 0)), (2, .ref (s.heap.size + 306)), (3, .ref (s.heap.size + 331)), (4, .int i)]) hx hb dL_law_2246 hl (by decide) rfl (fun ls hl => ?_)
  refine lv_aload_n hx hb dL_law_2248 rfl (lv_at hl 4 rfl) ?_
  refine k_X12_thrown F (show sh_X12_thrown μ2 = some code9 from congrArg some hth) q_1457 ⟨Nat.le_of_ble_eq_true rfl, Nat.le_of_ble_eq_true rfl, by omega, by omega⟩ hW hS hl.1 (Nat.le_of_ble_eq_true rfl) dL_law_2249 (fun H locs hW hS => ?_)
  refine lv_iload hx hb dL_law_2252 (lv_at hl 1 rfl) ?_
  refine lv_icmp_eq (tgt := 2259) hx hb dL_law_2254 (by decide) (fun _ => ?_) (fun q => absurd rfl q)
  refine lv_iload hx hb dL_law_2259 (lv_at hl 1 rfl) ?_
  refine lv_if_ne (tgt := 2276) hx hb dL_law_2261 (by decide) (fun _ => lv_goto (tgt := 2642) hx hb dL_law_2276 (by decide) (kk G μ2 H locs ls h13 F hIV hW hS (lv_sub hl [2, 3, 4, 5, 6] rfl))) (fun h0 => ?_)
  refine lv_aload_n hx hb dL_law_2264 rfl (lv_at hl 5 rfl) ?_
  refine lv_iconst (v := (0 : Int32)) hx hb dL_law_2265 (by decide) ?_
  refine l_out h13 F hW dL_law_2266 ?_
  rw [hval h0]
  refine lv_iload hx hb dL_law_2267 (lv_at hl 0 rfl) ?_
  refine lv_i2l hx hb dL_law_2269 rfl ?_
  refine W.lcmp hx hb dL_law_2270 ?_
  rw [cmp_0]
  exact lv_if_eq (tgt := 2276) hx hb dL_law_2271 (by decide) (fun _ => lv_goto (tgt := 2642) hx hb dL_law_2276 (by decide) (kk G μ2 H locs ls h13 F hIV hW hS (lv_sub hl [2, 3, 4, 5, 6] rfl))) (fun q => absurd rfl q)
set_option maxHeartbeats 4000000 in
set_option maxRecDepth 100000 in
theorem s_pagesIf (hlT : l.stackTraces = false) (hB : lwB p s m args meth c sb L xs i cells slots G μ H locs ls) (kk : lwK p l e s m args below meth c sb i cells slots Q) : W p l e room_1 s m args below meth c H locs cells slots Q (F0 m 2211 ls []) := by
  obtain ⟨h13, F, hIV, hW, hS, hl, hX, hsb, hin, hc1, hc2⟩ := hB
  have hx := F.1
  have hb := F.2.1
  replace hl : lv_has ls 7 [(0, .ref sb), (1, .ref (s.heap.size + 0)), (2, .ref (s.heap.size + 306)), (3, .ref (s.heap.size + 331)), (4, .int i)] := hl
  obtain ⟨x, μ1, v, μ2, hc, hd, hag, hIV2⟩ := i_pagesIf (n := 120000) (Nat.le_refl _) hIV (xs (i + 1).toNatClampNeg) (xs (i + 2).toNatClampNeg)
  refine lv_aload_n hx hb dL_law_2211 rfl (lv_at hl 1 rfl) ?_
  refine l_arg (k0 := 0) (k4 := 4) (t := 1) hx hb hX hsb hS hl rfl rfl (hin 1 (by decide)) dL_law_2212 dL_law_2213 dL_law_2215 (by decide) dL_law_2216 dL_law_2217 ?_
  refine l_arg (k0 := 0) (k4 := 4) (t := 2) hx hb hX hsb hS hl rfl rfl (hin 2 (by decide)) dL_law_2218 dL_law_2219 dL_law_2221 (by decide) dL_law_2222 dL_law_2223 ?_
  refine lv_aload_n hx hb dL_law_2224 rfl (lv_at hl 3 rfl) ?_
  cases x with
  | inl e9 =>
    obtain ⟨j, hj, hth⟩ := hag
    match j, hj, hth with
    | 0, hj, hth =>
      have e8 : e9 = 2 := (Option.some.inj (show some 2 = some e9 from hj)).symm
      subst e8
      exact l_call (c_L_pagesIf_x2 hlT h13 hc) ⟨rfl, rfl⟩ q_1384 q_0 q_1385 ⟨by decide +kernel, by decide +kernel, (show (parseMethodDescriptor yL_pagesIf.desc).map (fun d => d.parameters.length) = some 4 by decide +kernel)⟩ F q_1383 ⟨Nat.le_of_ble_eq_true rfl, Nat.le_of_ble_eq_true rfl, by omega, by omega⟩ hW hS hl.1 (Nat.le_of_ble_eq_true rfl) rfl dL_law_2225 (fun n H locs hn hW hS => W.widen (by omega) (by omega) (t_pagesIf (gs_13.trans h13) (FX_gs F) hW hS hl hX hsb hin hc1 hc2 hd hIV2 (hth.trans (show jv (((0 : Nat) : Int) + 1) = 1 by decide)) (fun q => absurd q (by decide)) kk))
    | 1, hj, hth =>
      have e8 : e9 = 1 := (Option.some.inj (show some 1 = some e9 from hj)).symm
      subst e8
      exact l_call (c_L_pagesIf_x1 hlT h13 hc) ⟨rfl, rfl⟩ q_1384 q_0 q_1385 ⟨by decide +kernel, by decide +kernel, (show (parseMethodDescriptor yL_pagesIf.desc).map (fun d => d.parameters.length) = some 4 by decide +kernel)⟩ F q_1383 ⟨Nat.le_of_ble_eq_true rfl, Nat.le_of_ble_eq_true rfl, by omega, by omega⟩ hW hS hl.1 (Nat.le_of_ble_eq_true rfl) rfl dL_law_2225 (fun n H locs hn hW hS => W.widen (by omega) (by omega) (t_pagesIf (gs_13.trans h13) (FX_gs F) hW hS hl hX hsb hin hc1 hc2 hd hIV2 (hth.trans (show jv (((1 : Nat) : Int) + 1) = 2 by decide)) (fun q => absurd q (by decide)) kk))
    | j + 2, hj, _ => exact absurd (show (none : Option Nat) = some e9 from hj) (fun q => nomatch q)
  | inr r =>
    obtain ⟨hth, hv⟩ := hag
    subst hv
    exact l_call (c_L_pagesIf_ok hlT h13 hc) ⟨rfl, rfl⟩ q_1384 q_0 q_1385 ⟨by decide +kernel, by decide +kernel, (show (parseMethodDescriptor yL_pagesIf.desc).map (fun d => d.parameters.length) = some 4 by decide +kernel)⟩ F q_1383 ⟨Nat.le_of_ble_eq_true rfl, Nat.le_of_ble_eq_true rfl, by omega, by omega⟩ hW hS hl.1 (Nat.le_of_ble_eq_true rfl) rfl dL_law_2225 (fun n H locs hn hW hS => W.widen (by omega) (by omega) (t_pagesIf (gs_13.trans h13) (FX_gs F) hW hS hl hX hsb hin hc1 hc2 hd hIV2 (hth.trans (show jv 0 = 0 by decide)) (fun _ => hn _ rfl) kk))
set_option maxHeartbeats 4000000 in
set_option maxRecDepth 100000 in
theorem t_leastWidth {code9 v : Int32} (h13 : G.2.2.2 13 = 1) (F : FX (fg G) s.heap.size RL cL_law 7 p s m args meth c) (hW : WH (fg G) s.heap.size μ1 H) (hS : va_S (fb s.heap.size) s.heap H locs) (hl : lv_has ls 7 [(0, .ref sb), (1, .ref (s.heap.size + 0)), (2, .ref (s.heap.size + 306)), (3, .ref (s.heap.size + 331)), (4, .int i)]) (hX : va_X sb L xs s s.heap) (hsb : sb < s.heap.size) (hin : ∀ t : Int32, t ∈ [(1 : Int32), 2, 3, 4, 5] → vp_in (i + t) L) (hc1 : cells + 4 ≤ room_1.cells) (hc2 : slots + 24 ≤ room_1.slots)
    (hd : sh_X12_leastWidth 120000 (xs (i + 1).toNatClampNeg) μ1 = some (v, μ2)) (hIV : IV μ2) (hth : μ2.1 306 0 = code9) (hval : code9 = 0 → Int64.ofNat (G.2.2.2 14) = v.toInt64) (kk : lwK p l e s m args below meth c sb i cells slots Q) : W p l e room_1 s m args below meth c H locs (cells + 4) (slots + 24) Q (F0 m 2290 ls [.int code9]) := by
  have hx := F.1
  have hb := F.2.1
  refine lv_istore (lv' := [(5, .int code9), (0, .ref sb), (1, .ref (s.heap.size + 0)), (2, .ref (s.heap.size + 306)), (3, .ref (s.heap.size + 331)), (4, .int i)]) hx hb dL_law_2290 hl (by decide) rfl (fun ls hl => ?_)
  refine lv_aload_n hx hb dL_law_2292 rfl (lv_at hl 3 rfl) ?_
  refine l_arg (k0 := 1) (k4 := 5) (t := 1) hx hb hX hsb hS hl rfl rfl (hin 1 (by decide)) dL_law_2293 dL_law_2294 dL_law_2296 (by decide) dL_law_2297 dL_law_2298 ?_
  refine k_X12_leastWidth F hd q_2122 ⟨Nat.le_of_ble_eq_true rfl, Nat.le_of_ble_eq_true rfl, by omega, by omega⟩ hW hS hl.1 (Nat.le_of_ble_eq_true rfl) dL_law_2299 (fun H locs hW hS => ?_)
  refine lv_istore (lv' := [(6, .int v), (5, .int code9), (0, .ref sb), (1, .ref (s.heap.size + 0)), (2, .ref (s.heap.size + 306)), (3, .ref (s.heap.size + 331)), (4, .int i)]) hx hb dL_law_2302 hl (by decide) rfl (fun ls hl => ?_)
  refine lv_aload_n hx hb dL_law_2304 rfl (lv_at hl 4 rfl) ?_
  refine k_X12_thrown F (show sh_X12_thrown μ2 = some code9 from congrArg some hth) q_1457 ⟨Nat.le_of_ble_eq_true rfl, Nat.le_of_ble_eq_true rfl, by omega, by omega⟩ hW hS hl.1 (Nat.le_of_ble_eq_true rfl) dL_law_2305 (fun H locs hW hS => ?_)
  refine lv_iload hx hb dL_law_2308 (lv_at hl 1 rfl) ?_
  refine lv_icmp_eq (tgt := 2315) hx hb dL_law_2310 (by decide) (fun _ => ?_) (fun q => absurd rfl q)
  refine lv_iload hx hb dL_law_2315 (lv_at hl 1 rfl) ?_
  refine lv_if_ne (tgt := 2332) hx hb dL_law_2317 (by decide) (fun _ => lv_goto (tgt := 2642) hx hb dL_law_2332 (by decide) (kk G μ2 H locs ls h13 F hIV hW hS (lv_sub hl [2, 3, 4, 5, 6] rfl))) (fun h0 => ?_)
  refine lv_aload_n hx hb dL_law_2320 rfl (lv_at hl 5 rfl) ?_
  refine lv_iconst (v := (0 : Int32)) hx hb dL_law_2321 (by decide) ?_
  refine l_out h13 F hW dL_law_2322 ?_
  rw [hval h0]
  refine lv_iload hx hb dL_law_2323 (lv_at hl 0 rfl) ?_
  refine lv_i2l hx hb dL_law_2325 rfl ?_
  refine W.lcmp hx hb dL_law_2326 ?_
  rw [cmp_0]
  exact lv_if_eq (tgt := 2332) hx hb dL_law_2327 (by decide) (fun _ => lv_goto (tgt := 2642) hx hb dL_law_2332 (by decide) (kk G μ2 H locs ls h13 F hIV hW hS (lv_sub hl [2, 3, 4, 5, 6] rfl))) (fun q => absurd rfl q)
set_option maxHeartbeats 4000000 in
set_option maxRecDepth 100000 in
theorem s_leastWidth (hlT : l.stackTraces = false) (hB : lwB p s m args meth c sb L xs i cells slots G μ H locs ls) (kk : lwK p l e s m args below meth c sb i cells slots Q) : W p l e room_1 s m args below meth c H locs cells slots Q (F0 m 2279 ls []) := by
  obtain ⟨h13, F, hIV, hW, hS, hl, hX, hsb, hin, hc1, hc2⟩ := hB
  have hx := F.1
  have hb := F.2.1
  replace hl : lv_has ls 7 [(0, .ref sb), (1, .ref (s.heap.size + 0)), (2, .ref (s.heap.size + 306)), (3, .ref (s.heap.size + 331)), (4, .int i)] := hl
  obtain ⟨x, μ1, v, μ2, hc, hd, hag, hIV2⟩ := i_leastWidth (n := 120000) (Nat.le_refl _) hIV (xs (i + 1).toNatClampNeg)
  refine lv_aload_n hx hb dL_law_2279 rfl (lv_at hl 1 rfl) ?_
  refine l_arg (k0 := 0) (k4 := 4) (t := 1) hx hb hX hsb hS hl rfl rfl (hin 1 (by decide)) dL_law_2280 dL_law_2281 dL_law_2283 (by decide) dL_law_2284 dL_law_2285 ?_
  refine lv_aload_n hx hb dL_law_2286 rfl (lv_at hl 3 rfl) ?_
  cases x with
  | inl e9 =>
    obtain ⟨j, hj, hth⟩ := hag
    match j, hj, hth with
    | 0, hj, hth =>
      have e8 : e9 = 1 := (Option.some.inj (show some 1 = some e9 from hj)).symm
      subst e8
      exact l_call (c_L_leastWidth_x1 hlT h13 hc) ⟨rfl, rfl⟩ q_1391 q_0 q_1392 ⟨by decide +kernel, by decide +kernel, (show (parseMethodDescriptor yL_leastWidth.desc).map (fun d => d.parameters.length) = some 3 by decide +kernel)⟩ F q_1390 ⟨Nat.le_of_ble_eq_true rfl, Nat.le_of_ble_eq_true rfl, by omega, by omega⟩ hW hS hl.1 (Nat.le_of_ble_eq_true rfl) rfl dL_law_2287 (fun n H locs hn hW hS => W.widen (by omega) (by omega) (t_leastWidth (gs_13.trans h13) (FX_gs F) hW hS hl hX hsb hin hc1 hc2 hd hIV2 (hth.trans (show jv (((0 : Nat) : Int) + 1) = 1 by decide)) (fun q => absurd q (by decide)) kk))
    | j + 1, hj, _ => exact absurd (show (none : Option Nat) = some e9 from hj) (fun q => nomatch q)
  | inr r =>
    obtain ⟨hth, hv⟩ := hag
    subst hv
    exact l_call (c_L_leastWidth_ok hlT h13 hc) ⟨rfl, rfl⟩ q_1391 q_0 q_1392 ⟨by decide +kernel, by decide +kernel, (show (parseMethodDescriptor yL_leastWidth.desc).map (fun d => d.parameters.length) = some 3 by decide +kernel)⟩ F q_1390 ⟨Nat.le_of_ble_eq_true rfl, Nat.le_of_ble_eq_true rfl, by omega, by omega⟩ hW hS hl.1 (Nat.le_of_ble_eq_true rfl) rfl dL_law_2287 (fun n H locs hn hW hS => W.widen (by omega) (by omega) (t_leastWidth (gs_13.trans h13) (FX_gs F) hW hS hl hX hsb hin hc1 hc2 hd hIV2 (hth.trans (show jv 0 = 0 by decide)) (fun _ => hn _ rfl) kk))
set_option maxHeartbeats 4000000 in
set_option maxRecDepth 100000 in
theorem s_bestWidth (hlT : l.stackTraces = false) (hB : lwB p s m args meth c sb L xs i cells slots G μ H locs ls) (kk : lwK p l e s m args below meth c sb i cells slots Q) : W p l e room_1 s m args below meth c H locs cells slots Q (F0 m 2335 ls []) := by
  obtain ⟨h13, F, hIV, hW, hS, hl, hX, hsb, hin, hc1, hc2⟩ := hB
  have hx := F.1
  have hb := F.2.1
  replace hl : lv_has ls 7 [(0, .ref sb), (1, .ref (s.heap.size + 0)), (2, .ref (s.heap.size + 306)), (3, .ref (s.heap.size + 331)), (4, .int i)] := hl
  obtain ⟨v, μ1, μ2, hc, hd, hIV2⟩ := i_bestWidth (n := 120000) (Nat.le_refl _) hIV
  refine lv_aload_n hx hb dL_law_2335 rfl (lv_at hl 1 rfl) ?_
  refine k_X11_bestWidth F hc q_956 ⟨Nat.le_of_ble_eq_true rfl, Nat.le_of_ble_eq_true rfl, by omega, by omega⟩ hW hS hl.1 (Nat.le_of_ble_eq_true rfl) dL_law_2336 (fun H locs hW hS => ?_)
  refine lv_aload_n hx hb dL_law_2339 rfl (lv_at hl 2 rfl) ?_
  refine k_X12_bestWidth F hd q_2126 ⟨Nat.le_of_ble_eq_true rfl, Nat.le_of_ble_eq_true rfl, by omega, by omega⟩ hW hS hl.1 (Nat.le_of_ble_eq_true rfl) dL_law_2340 (fun H locs hW hS => ?_)
  exact lv_icmp_eq (tgt := 2642) hx hb dL_law_2343 (by decide) (fun _ => W.widen (by omega) (by omega) (kk G μ2 H locs ls h13 F hIV2 hW hS hl)) (fun q => absurd rfl q)
set_option maxHeartbeats 4000000 in
set_option maxRecDepth 100000 in
theorem t_crowded {code9 v : Int32} (h13 : G.2.2.2 13 = 1) (F : FX (fg G) s.heap.size RL cL_law 7 p s m args meth c) (hW : WH (fg G) s.heap.size μ1 H) (hS : va_S (fb s.heap.size) s.heap H locs) (hl : lv_has ls 7 [(0, .ref sb), (1, .ref (s.heap.size + 0)), (2, .ref (s.heap.size + 306)), (3, .ref (s.heap.size + 331)), (4, .int i)]) (hX : va_X sb L xs s s.heap) (hsb : sb < s.heap.size) (hin : ∀ t : Int32, t ∈ [(1 : Int32), 2, 3, 4, 5] → vp_in (i + t) L) (hc1 : cells + 4 ≤ room_1.cells) (hc2 : slots + 24 ≤ room_1.slots)
    (hd : sh_X12_crowded 120000 (xs (i + 1).toNatClampNeg) μ1 = some (v, μ2)) (hIV : IV μ2) (hth : μ2.1 306 0 = code9) (hval : code9 = 0 → Int64.ofNat (G.2.2.2 14) = v.toInt64) (kk : lwK p l e s m args below meth c sb i cells slots Q) : W p l e room_1 s m args below meth c H locs (cells + 4) (slots + 24) Q (F0 m 2359 ls [.int code9]) := by
  have hx := F.1
  have hb := F.2.1
  refine lv_istore (lv' := [(5, .int code9), (0, .ref sb), (1, .ref (s.heap.size + 0)), (2, .ref (s.heap.size + 306)), (3, .ref (s.heap.size + 331)), (4, .int i)]) hx hb dL_law_2359 hl (by decide) rfl (fun ls hl => ?_)
  refine lv_aload_n hx hb dL_law_2361 rfl (lv_at hl 3 rfl) ?_
  refine l_arg (k0 := 1) (k4 := 5) (t := 1) hx hb hX hsb hS hl rfl rfl (hin 1 (by decide)) dL_law_2362 dL_law_2363 dL_law_2365 (by decide) dL_law_2366 dL_law_2367 ?_
  refine k_X12_crowded F hd q_2130 ⟨Nat.le_of_ble_eq_true rfl, Nat.le_of_ble_eq_true rfl, by omega, by omega⟩ hW hS hl.1 (Nat.le_of_ble_eq_true rfl) dL_law_2368 (fun H locs hW hS => ?_)
  refine lv_istore (lv' := [(6, .int v), (5, .int code9), (0, .ref sb), (1, .ref (s.heap.size + 0)), (2, .ref (s.heap.size + 306)), (3, .ref (s.heap.size + 331)), (4, .int i)]) hx hb dL_law_2371 hl (by decide) rfl (fun ls hl => ?_)
  refine lv_aload_n hx hb dL_law_2373 rfl (lv_at hl 4 rfl) ?_
  refine k_X12_thrown F (show sh_X12_thrown μ2 = some code9 from congrArg some hth) q_1457 ⟨Nat.le_of_ble_eq_true rfl, Nat.le_of_ble_eq_true rfl, by omega, by omega⟩ hW hS hl.1 (Nat.le_of_ble_eq_true rfl) dL_law_2374 (fun H locs hW hS => ?_)
  refine lv_iload hx hb dL_law_2377 (lv_at hl 1 rfl) ?_
  refine lv_icmp_eq (tgt := 2384) hx hb dL_law_2379 (by decide) (fun _ => ?_) (fun q => absurd rfl q)
  refine lv_iload hx hb dL_law_2384 (lv_at hl 1 rfl) ?_
  refine lv_if_ne (tgt := 2401) hx hb dL_law_2386 (by decide) (fun _ => lv_goto (tgt := 2642) hx hb dL_law_2401 (by decide) (kk G μ2 H locs ls h13 F hIV hW hS (lv_sub hl [2, 3, 4, 5, 6] rfl))) (fun h0 => ?_)
  refine lv_aload_n hx hb dL_law_2389 rfl (lv_at hl 5 rfl) ?_
  refine lv_iconst (v := (0 : Int32)) hx hb dL_law_2390 (by decide) ?_
  refine l_out h13 F hW dL_law_2391 ?_
  rw [hval h0]
  refine lv_iload hx hb dL_law_2392 (lv_at hl 0 rfl) ?_
  refine lv_i2l hx hb dL_law_2394 rfl ?_
  refine W.lcmp hx hb dL_law_2395 ?_
  rw [cmp_0]
  exact lv_if_eq (tgt := 2401) hx hb dL_law_2396 (by decide) (fun _ => lv_goto (tgt := 2642) hx hb dL_law_2401 (by decide) (kk G μ2 H locs ls h13 F hIV hW hS (lv_sub hl [2, 3, 4, 5, 6] rfl))) (fun q => absurd rfl q)
set_option maxHeartbeats 4000000 in
set_option maxRecDepth 100000 in
theorem s_crowded (hlT : l.stackTraces = false) (hB : lwB p s m args meth c sb L xs i cells slots G μ H locs ls) (kk : lwK p l e s m args below meth c sb i cells slots Q) : W p l e room_1 s m args below meth c H locs cells slots Q (F0 m 2348 ls []) := by
  obtain ⟨h13, F, hIV, hW, hS, hl, hX, hsb, hin, hc1, hc2⟩ := hB
  have hx := F.1
  have hb := F.2.1
  replace hl : lv_has ls 7 [(0, .ref sb), (1, .ref (s.heap.size + 0)), (2, .ref (s.heap.size + 306)), (3, .ref (s.heap.size + 331)), (4, .int i)] := hl
  obtain ⟨x, v, μ2, hc, hd, hag, hIV2⟩ := i_crowded (n := 120000) (Nat.le_refl _) hIV (xs (i + 1).toNatClampNeg)
  refine lv_aload_n hx hb dL_law_2348 rfl (lv_at hl 1 rfl) ?_
  refine l_arg (k0 := 0) (k4 := 4) (t := 1) hx hb hX hsb hS hl rfl rfl (hin 1 (by decide)) dL_law_2349 dL_law_2350 dL_law_2352 (by decide) dL_law_2353 dL_law_2354 ?_
  refine lv_aload_n hx hb dL_law_2355 rfl (lv_at hl 3 rfl) ?_
  cases x with
  | inl e9 =>
    obtain ⟨j, hj, hth⟩ := hag
    match j, hj, hth with
    | 0, hj, hth =>
      have e8 : e9 = 1 := (Option.some.inj (show some 1 = some e9 from hj)).symm
      subst e8
      exact l_call (c_L_crowded_x1 hlT h13 hc) ⟨rfl, rfl⟩ q_1399 q_0 q_1400 ⟨by decide +kernel, by decide +kernel, (show (parseMethodDescriptor yL_crowded.desc).map (fun d => d.parameters.length) = some 3 by decide +kernel)⟩ F q_1398 ⟨Nat.le_of_ble_eq_true rfl, Nat.le_of_ble_eq_true rfl, by omega, by omega⟩ hW hS hl.1 (Nat.le_of_ble_eq_true rfl) rfl dL_law_2356 (fun n H locs hn hW hS => W.widen (by omega) (by omega) (t_crowded (gs_13.trans h13) (FX_gs F) hW hS hl hX hsb hin hc1 hc2 hd hIV2 (hth.trans (show jv (((0 : Nat) : Int) + 1) = 1 by decide)) (fun q => absurd q (by decide)) kk))
    | j + 1, hj, _ => exact absurd (show (none : Option Nat) = some e9 from hj) (fun q => nomatch q)
  | inr r =>
    obtain ⟨hth, hv⟩ := hag
    subst hv
    exact l_call (c_L_crowded_ok hlT h13 hc) ⟨rfl, rfl⟩ q_1399 q_0 q_1400 ⟨by decide +kernel, by decide +kernel, (show (parseMethodDescriptor yL_crowded.desc).map (fun d => d.parameters.length) = some 3 by decide +kernel)⟩ F q_1398 ⟨Nat.le_of_ble_eq_true rfl, Nat.le_of_ble_eq_true rfl, by omega, by omega⟩ hW hS hl.1 (Nat.le_of_ble_eq_true rfl) rfl dL_law_2356 (fun n H locs hn hW hS => W.widen (by omega) (by omega) (t_crowded (gs_13.trans h13) (FX_gs F) hW hS hl hX hsb hin hc1 hc2 hd hIV2 (hth.trans (show jv 0 = 0 by decide)) (fun _ => hn _ rfl) kk))
set_option maxHeartbeats 4000000 in
set_option maxRecDepth 100000 in
theorem t_longest {code9 v : Int32} (h13 : G.2.2.2 13 = 1) (F : FX (fg G) s.heap.size RL cL_law 7 p s m args meth c) (hW : WH (fg G) s.heap.size μ1 H) (hS : va_S (fb s.heap.size) s.heap H locs) (hl : lv_has ls 7 [(0, .ref sb), (1, .ref (s.heap.size + 0)), (2, .ref (s.heap.size + 306)), (3, .ref (s.heap.size + 331)), (4, .int i)]) (hX : va_X sb L xs s s.heap) (hsb : sb < s.heap.size) (hin : ∀ t : Int32, t ∈ [(1 : Int32), 2, 3, 4, 5] → vp_in (i + t) L) (hc1 : cells + 4 ≤ room_1.cells) (hc2 : slots + 24 ≤ room_1.slots)
    (hd : sh_X12_longest 120000 (xs (i + 1).toNatClampNeg) μ1 = some (v, μ2)) (hIV : IV μ2) (hth : μ2.1 306 0 = code9) (hval : code9 = 0 → Int64.ofNat (G.2.2.2 14) = v.toInt64) (kk : lwK p l e s m args below meth c sb i cells slots Q) : W p l e room_1 s m args below meth c H locs (cells + 4) (slots + 24) Q (F0 m 2415 ls [.int code9]) := by
  have hx := F.1
  have hb := F.2.1
  refine lv_istore (lv' := [(5, .int code9), (0, .ref sb), (1, .ref (s.heap.size + 0)), (2, .ref (s.heap.size + 306)), (3, .ref (s.heap.size + 331)), (4, .int i)]) hx hb dL_law_2415 hl (by decide) rfl (fun ls hl => ?_)
  refine lv_aload_n hx hb dL_law_2417 rfl (lv_at hl 3 rfl) ?_
  refine l_arg (k0 := 1) (k4 := 5) (t := 1) hx hb hX hsb hS hl rfl rfl (hin 1 (by decide)) dL_law_2418 dL_law_2419 dL_law_2421 (by decide) dL_law_2422 dL_law_2423 ?_
  refine k_X12_longest F hd q_2138 ⟨Nat.le_of_ble_eq_true rfl, Nat.le_of_ble_eq_true rfl, by omega, by omega⟩ hW hS hl.1 (Nat.le_of_ble_eq_true rfl) dL_law_2424 (fun H locs hW hS => ?_)
  refine lv_istore (lv' := [(6, .int v), (5, .int code9), (0, .ref sb), (1, .ref (s.heap.size + 0)), (2, .ref (s.heap.size + 306)), (3, .ref (s.heap.size + 331)), (4, .int i)]) hx hb dL_law_2427 hl (by decide) rfl (fun ls hl => ?_)
  refine lv_aload_n hx hb dL_law_2429 rfl (lv_at hl 4 rfl) ?_
  refine k_X12_thrown F (show sh_X12_thrown μ2 = some code9 from congrArg some hth) q_1457 ⟨Nat.le_of_ble_eq_true rfl, Nat.le_of_ble_eq_true rfl, by omega, by omega⟩ hW hS hl.1 (Nat.le_of_ble_eq_true rfl) dL_law_2430 (fun H locs hW hS => ?_)
  refine lv_iload hx hb dL_law_2433 (lv_at hl 1 rfl) ?_
  refine lv_icmp_eq (tgt := 2440) hx hb dL_law_2435 (by decide) (fun _ => ?_) (fun q => absurd rfl q)
  refine lv_iload hx hb dL_law_2440 (lv_at hl 1 rfl) ?_
  refine lv_if_ne (tgt := 2457) hx hb dL_law_2442 (by decide) (fun _ => lv_goto (tgt := 2642) hx hb dL_law_2457 (by decide) (kk G μ2 H locs ls h13 F hIV hW hS (lv_sub hl [2, 3, 4, 5, 6] rfl))) (fun h0 => ?_)
  refine lv_aload_n hx hb dL_law_2445 rfl (lv_at hl 5 rfl) ?_
  refine lv_iconst (v := (0 : Int32)) hx hb dL_law_2446 (by decide) ?_
  refine l_out h13 F hW dL_law_2447 ?_
  rw [hval h0]
  refine lv_iload hx hb dL_law_2448 (lv_at hl 0 rfl) ?_
  refine lv_i2l hx hb dL_law_2450 rfl ?_
  refine W.lcmp hx hb dL_law_2451 ?_
  rw [cmp_0]
  exact lv_if_eq (tgt := 2457) hx hb dL_law_2452 (by decide) (fun _ => lv_goto (tgt := 2642) hx hb dL_law_2457 (by decide) (kk G μ2 H locs ls h13 F hIV hW hS (lv_sub hl [2, 3, 4, 5, 6] rfl))) (fun q => absurd rfl q)
set_option maxHeartbeats 4000000 in
set_option maxRecDepth 100000 in
theorem s_longest (hlT : l.stackTraces = false) (hB : lwB p s m args meth c sb L xs i cells slots G μ H locs ls) (kk : lwK p l e s m args below meth c sb i cells slots Q) : W p l e room_1 s m args below meth c H locs cells slots Q (F0 m 2404 ls []) := by
  obtain ⟨h13, F, hIV, hW, hS, hl, hX, hsb, hin, hc1, hc2⟩ := hB
  have hx := F.1
  have hb := F.2.1
  replace hl : lv_has ls 7 [(0, .ref sb), (1, .ref (s.heap.size + 0)), (2, .ref (s.heap.size + 306)), (3, .ref (s.heap.size + 331)), (4, .int i)] := hl
  obtain ⟨x, v, μ2, hc, hd, hag, hIV2⟩ := i_longest (n := 120000) (Nat.le_refl _) hIV (xs (i + 1).toNatClampNeg)
  refine lv_aload_n hx hb dL_law_2404 rfl (lv_at hl 1 rfl) ?_
  refine l_arg (k0 := 0) (k4 := 4) (t := 1) hx hb hX hsb hS hl rfl rfl (hin 1 (by decide)) dL_law_2405 dL_law_2406 dL_law_2408 (by decide) dL_law_2409 dL_law_2410 ?_
  refine lv_aload_n hx hb dL_law_2411 rfl (lv_at hl 3 rfl) ?_
  cases x with
  | inl e9 =>
    obtain ⟨j, hj, hth⟩ := hag
    match j, hj, hth with
    | 0, hj, hth =>
      have e8 : e9 = 1 := (Option.some.inj (show some 1 = some e9 from hj)).symm
      subst e8
      exact l_call (c_L_longest_x1 hlT h13 hc) ⟨rfl, rfl⟩ q_1423 q_0 q_1424 ⟨by decide +kernel, by decide +kernel, (show (parseMethodDescriptor yL_longest.desc).map (fun d => d.parameters.length) = some 3 by decide +kernel)⟩ F q_1422 ⟨Nat.le_of_ble_eq_true rfl, Nat.le_of_ble_eq_true rfl, by omega, by omega⟩ hW hS hl.1 (Nat.le_of_ble_eq_true rfl) rfl dL_law_2412 (fun n H locs hn hW hS => W.widen (by omega) (by omega) (t_longest (gs_13.trans h13) (FX_gs F) hW hS hl hX hsb hin hc1 hc2 hd hIV2 (hth.trans (show jv (((0 : Nat) : Int) + 1) = 1 by decide)) (fun q => absurd q (by decide)) kk))
    | j + 1, hj, _ => exact absurd (show (none : Option Nat) = some e9 from hj) (fun q => nomatch q)
  | inr r =>
    obtain ⟨hth, hv⟩ := hag
    subst hv
    exact l_call (c_L_longest_ok hlT h13 hc) ⟨rfl, rfl⟩ q_1423 q_0 q_1424 ⟨by decide +kernel, by decide +kernel, (show (parseMethodDescriptor yL_longest.desc).map (fun d => d.parameters.length) = some 3 by decide +kernel)⟩ F q_1422 ⟨Nat.le_of_ble_eq_true rfl, Nat.le_of_ble_eq_true rfl, by omega, by omega⟩ hW hS hl.1 (Nat.le_of_ble_eq_true rfl) rfl dL_law_2412 (fun n H locs hn hW hS => W.widen (by omega) (by omega) (t_longest (gs_13.trans h13) (FX_gs F) hW hS hl hX hsb hin hc1 hc2 hd hIV2 (hth.trans (show jv 0 = 0 by decide)) (fun _ => hn _ rfl) kk))
set_option maxHeartbeats 4000000 in
set_option maxRecDepth 100000 in
theorem t_undo {code9 v : Int32} (h13 : G.2.2.2 13 = 1) (F : FX (fg G) s.heap.size RL cL_law 7 p s m args meth c) (hW : WH (fg G) s.heap.size μ1 H) (hS : va_S (fb s.heap.size) s.heap H locs) (hl : lv_has ls 7 [(0, .ref sb), (1, .ref (s.heap.size + 0)), (2, .ref (s.heap.size + 306)), (3, .ref (s.heap.size + 331)), (4, .int i)]) (hX : va_X sb L xs s s.heap) (hsb : sb < s.heap.size) (hin : ∀ t : Int32, t ∈ [(1 : Int32), 2, 3, 4, 5] → vp_in (i + t) L) (hc1 : cells + 4 ≤ room_1.cells) (hc2 : slots + 24 ≤ room_1.slots)
    (hd : sh_X12_undo 120000  μ1 = some (v, μ2)) (hIV : IV μ2) (hth : μ2.1 306 0 = code9) (hval : code9 = 0 → Int64.ofNat (G.2.2.2 14) = v.toInt64) (kk : lwK p l e s m args below meth c sb i cells slots Q) : W p l e room_1 s m args below meth c H locs (cells + 4) (slots + 24) Q (F0 m 2465 ls [.int code9]) := by
  have hx := F.1
  have hb := F.2.1
  refine lv_istore (lv' := [(5, .int code9), (0, .ref sb), (1, .ref (s.heap.size + 0)), (2, .ref (s.heap.size + 306)), (3, .ref (s.heap.size + 331)), (4, .int i)]) hx hb dL_law_2465 hl (by decide) rfl (fun ls hl => ?_)
  refine lv_aload_n hx hb dL_law_2467 rfl (lv_at hl 3 rfl) ?_
  refine k_X12_undo F hd q_2142 ⟨Nat.le_of_ble_eq_true rfl, Nat.le_of_ble_eq_true rfl, by omega, by omega⟩ hW hS hl.1 (Nat.le_of_ble_eq_true rfl) dL_law_2468 (fun H locs hW hS => ?_)
  refine lv_istore (lv' := [(6, .int v), (5, .int code9), (0, .ref sb), (1, .ref (s.heap.size + 0)), (2, .ref (s.heap.size + 306)), (3, .ref (s.heap.size + 331)), (4, .int i)]) hx hb dL_law_2471 hl (by decide) rfl (fun ls hl => ?_)
  refine lv_aload_n hx hb dL_law_2473 rfl (lv_at hl 4 rfl) ?_
  refine k_X12_thrown F (show sh_X12_thrown μ2 = some code9 from congrArg some hth) q_1457 ⟨Nat.le_of_ble_eq_true rfl, Nat.le_of_ble_eq_true rfl, by omega, by omega⟩ hW hS hl.1 (Nat.le_of_ble_eq_true rfl) dL_law_2474 (fun H locs hW hS => ?_)
  refine lv_iload hx hb dL_law_2477 (lv_at hl 1 rfl) ?_
  refine lv_icmp_eq (tgt := 2484) hx hb dL_law_2479 (by decide) (fun _ => ?_) (fun q => absurd rfl q)
  refine lv_iload hx hb dL_law_2484 (lv_at hl 1 rfl) ?_
  refine lv_if_ne (tgt := 2501) hx hb dL_law_2486 (by decide) (fun _ => lv_goto (tgt := 2642) hx hb dL_law_2501 (by decide) (kk G μ2 H locs ls h13 F hIV hW hS (lv_sub hl [2, 3, 4, 5, 6] rfl))) (fun h0 => ?_)
  refine lv_aload_n hx hb dL_law_2489 rfl (lv_at hl 5 rfl) ?_
  refine lv_iconst (v := (0 : Int32)) hx hb dL_law_2490 (by decide) ?_
  refine l_out h13 F hW dL_law_2491 ?_
  rw [hval h0]
  refine lv_iload hx hb dL_law_2492 (lv_at hl 0 rfl) ?_
  refine lv_i2l hx hb dL_law_2494 rfl ?_
  refine W.lcmp hx hb dL_law_2495 ?_
  rw [cmp_0]
  exact lv_if_eq (tgt := 2501) hx hb dL_law_2496 (by decide) (fun _ => lv_goto (tgt := 2642) hx hb dL_law_2501 (by decide) (kk G μ2 H locs ls h13 F hIV hW hS (lv_sub hl [2, 3, 4, 5, 6] rfl))) (fun q => absurd rfl q)
set_option maxHeartbeats 4000000 in
set_option maxRecDepth 100000 in
theorem s_undo (hlT : l.stackTraces = false) (hB : lwB p s m args meth c sb L xs i cells slots G μ H locs ls) (kk : lwK p l e s m args below meth c sb i cells slots Q) : W p l e room_1 s m args below meth c H locs cells slots Q (F0 m 2460 ls []) := by
  obtain ⟨h13, F, hIV, hW, hS, hl, hX, hsb, hin, hc1, hc2⟩ := hB
  have hx := F.1
  have hb := F.2.1
  replace hl : lv_has ls 7 [(0, .ref sb), (1, .ref (s.heap.size + 0)), (2, .ref (s.heap.size + 306)), (3, .ref (s.heap.size + 331)), (4, .int i)] := hl
  obtain ⟨x, μ1, v, μ2, hc, hd, hag, hIV2⟩ := i_undo (n := 120000) (Nat.le_refl _) hIV 
  refine lv_aload_n hx hb dL_law_2460 rfl (lv_at hl 1 rfl) ?_
  refine lv_aload_n hx hb dL_law_2461 rfl (lv_at hl 3 rfl) ?_
  cases x with
  | inl e9 =>
    obtain ⟨j, hj, hth⟩ := hag
    match j, hj, hth with
    | 0, hj, hth =>
      have e8 : e9 = 0 := (Option.some.inj (show some 0 = some e9 from hj)).symm
      subst e8
      exact l_call (c_L_undo_x0 hlT h13 hc) ⟨rfl, rfl⟩ q_1434 q_0 q_1435 ⟨by decide +kernel, by decide +kernel, (show (parseMethodDescriptor yL_undo.desc).map (fun d => d.parameters.length) = some 2 by decide +kernel)⟩ F q_1433 ⟨Nat.le_of_ble_eq_true rfl, Nat.le_of_ble_eq_true rfl, by omega, by omega⟩ hW hS hl.1 (Nat.le_of_ble_eq_true rfl) rfl dL_law_2462 (fun n H locs hn hW hS => W.widen (by omega) (by omega) (t_undo (gs_13.trans h13) (FX_gs F) hW hS hl hX hsb hin hc1 hc2 hd hIV2 (hth.trans (show jv (((0 : Nat) : Int) + 1) = 1 by decide)) (fun q => absurd q (by decide)) kk))
    | j + 1, hj, _ => exact absurd (show (none : Option Nat) = some e9 from hj) (fun q => nomatch q)
  | inr r =>
    obtain ⟨hth, hv⟩ := hag
    subst hv
    exact l_call (c_L_undo_ok hlT h13 hc) ⟨rfl, rfl⟩ q_1434 q_0 q_1435 ⟨by decide +kernel, by decide +kernel, (show (parseMethodDescriptor yL_undo.desc).map (fun d => d.parameters.length) = some 2 by decide +kernel)⟩ F q_1433 ⟨Nat.le_of_ble_eq_true rfl, Nat.le_of_ble_eq_true rfl, by omega, by omega⟩ hW hS hl.1 (Nat.le_of_ble_eq_true rfl) rfl dL_law_2462 (fun n H locs hn hW hS => W.widen (by omega) (by omega) (t_undo (gs_13.trans h13) (FX_gs F) hW hS hl hX hsb hin hc1 hc2 hd hIV2 (hth.trans (show jv 0 = 0 by decide)) (fun _ => hn _ rfl) kk))
set_option maxHeartbeats 4000000 in
set_option maxRecDepth 100000 in
theorem s_undoCount (hlT : l.stackTraces = false) (hB : lwB p s m args meth c sb L xs i cells slots G μ H locs ls) (kk : lwK p l e s m args below meth c sb i cells slots Q) : W p l e room_1 s m args below meth c H locs cells slots Q (F0 m 2504 ls []) := by
  obtain ⟨h13, F, hIV, hW, hS, hl, hX, hsb, hin, hc1, hc2⟩ := hB
  have hx := F.1
  have hb := F.2.1
  replace hl : lv_has ls 7 [(0, .ref sb), (1, .ref (s.heap.size + 0)), (2, .ref (s.heap.size + 306)), (3, .ref (s.heap.size + 331)), (4, .int i)] := hl
  obtain ⟨v, μ2, hc, hd, hIV2⟩ := i_undoCount hIV
  refine lv_aload_n hx hb dL_law_2504 rfl (lv_at hl 1 rfl) ?_
  refine k_X11_undoCount F hc q_968 ⟨Nat.le_of_ble_eq_true rfl, Nat.le_of_ble_eq_true rfl, by omega, by omega⟩ hW hS hl.1 (Nat.le_of_ble_eq_true rfl) dL_law_2505 (fun H locs hW hS => ?_)
  refine lv_aload_n hx hb dL_law_2508 rfl (lv_at hl 2 rfl) ?_
  refine k_X12_undoCount F hd q_2146 ⟨Nat.le_of_ble_eq_true rfl, Nat.le_of_ble_eq_true rfl, by omega, by omega⟩ hW hS hl.1 (Nat.le_of_ble_eq_true rfl) dL_law_2509 (fun H locs hW hS => ?_)
  exact lv_icmp_eq (tgt := 2642) hx hb dL_law_2512 (by decide) (fun _ => W.widen (by omega) (by omega) (kk G μ2 H locs ls h13 F hIV2 hW hS hl)) (fun q => absurd rfl q)
set_option maxHeartbeats 4000000 in
set_option maxRecDepth 100000 in
theorem t_writeLine {code9 v : Int32} (h13 : G.2.2.2 13 = 1) (F : FX (fg G) s.heap.size RL cL_law 7 p s m args meth c) (hW : WH (fg G) s.heap.size μ1 H) (hS : va_S (fb s.heap.size) s.heap H locs) (hl : lv_has ls 7 [(0, .ref sb), (1, .ref (s.heap.size + 0)), (2, .ref (s.heap.size + 306)), (3, .ref (s.heap.size + 331)), (4, .int i)]) (hX : va_X sb L xs s s.heap) (hsb : sb < s.heap.size) (hin : ∀ t : Int32, t ∈ [(1 : Int32), 2, 3, 4, 5] → vp_in (i + t) L) (hc1 : cells + 4 ≤ room_1.cells) (hc2 : slots + 24 ≤ room_1.slots)
    (hd : sh_X12_writeLine 120000 (xs (i + 1).toNatClampNeg) μ1 = some (v, μ2)) (hIV : IV μ2) (hth : μ2.1 306 0 = code9) (hval : code9 = 0 → Int64.ofNat (G.2.2.2 14) = v.toInt64) (kk : lwK p l e s m args below meth c sb i cells slots Q) : W p l e room_1 s m args below meth c H locs (cells + 4) (slots + 24) Q (F0 m 2528 ls [.int code9]) := by
  have hx := F.1
  have hb := F.2.1
  refine lv_istore (lv' := [(5, .int code9), (0, .ref sb), (1, .ref (s.heap.size + 0)), (2, .ref (s.heap.size + 306)), (3, .ref (s.heap.size + 331)), (4, .int i)]) hx hb dL_law_2528 hl (by decide) rfl (fun ls hl => ?_)
  refine lv_aload_n hx hb dL_law_2530 rfl (lv_at hl 3 rfl) ?_
  refine l_arg (k0 := 1) (k4 := 5) (t := 1) hx hb hX hsb hS hl rfl rfl (hin 1 (by decide)) dL_law_2531 dL_law_2532 dL_law_2534 (by decide) dL_law_2535 dL_law_2536 ?_
  refine k_X12_writeLine F hd q_2150 ⟨Nat.le_of_ble_eq_true rfl, Nat.le_of_ble_eq_true rfl, by omega, by omega⟩ hW hS hl.1 (Nat.le_of_ble_eq_true rfl) dL_law_2537 (fun H locs hW hS => ?_)
  refine lv_istore (lv' := [(6, .int v), (5, .int code9), (0, .ref sb), (1, .ref (s.heap.size + 0)), (2, .ref (s.heap.size + 306)), (3, .ref (s.heap.size + 331)), (4, .int i)]) hx hb dL_law_2540 hl (by decide) rfl (fun ls hl => ?_)
  refine lv_aload_n hx hb dL_law_2542 rfl (lv_at hl 4 rfl) ?_
  refine k_X12_thrown F (show sh_X12_thrown μ2 = some code9 from congrArg some hth) q_1457 ⟨Nat.le_of_ble_eq_true rfl, Nat.le_of_ble_eq_true rfl, by omega, by omega⟩ hW hS hl.1 (Nat.le_of_ble_eq_true rfl) dL_law_2543 (fun H locs hW hS => ?_)
  refine lv_iload hx hb dL_law_2546 (lv_at hl 1 rfl) ?_
  refine lv_icmp_eq (tgt := 2553) hx hb dL_law_2548 (by decide) (fun _ => ?_) (fun q => absurd rfl q)
  refine lv_iload hx hb dL_law_2553 (lv_at hl 1 rfl) ?_
  refine lv_if_ne (tgt := 2570) hx hb dL_law_2555 (by decide) (fun _ => lv_goto (tgt := 2642) hx hb dL_law_2570 (by decide) (kk G μ2 H locs ls h13 F hIV hW hS (lv_sub hl [2, 3, 4, 5, 6] rfl))) (fun h0 => ?_)
  refine lv_aload_n hx hb dL_law_2558 rfl (lv_at hl 5 rfl) ?_
  refine lv_iconst (v := (0 : Int32)) hx hb dL_law_2559 (by decide) ?_
  refine l_out h13 F hW dL_law_2560 ?_
  rw [hval h0]
  refine lv_iload hx hb dL_law_2561 (lv_at hl 0 rfl) ?_
  refine lv_i2l hx hb dL_law_2563 rfl ?_
  refine W.lcmp hx hb dL_law_2564 ?_
  rw [cmp_0]
  exact lv_if_eq (tgt := 2570) hx hb dL_law_2565 (by decide) (fun _ => lv_goto (tgt := 2642) hx hb dL_law_2570 (by decide) (kk G μ2 H locs ls h13 F hIV hW hS (lv_sub hl [2, 3, 4, 5, 6] rfl))) (fun q => absurd rfl q)
set_option maxHeartbeats 4000000 in
set_option maxRecDepth 100000 in
theorem s_writeLine (hlT : l.stackTraces = false) (hB : lwB p s m args meth c sb L xs i cells slots G μ H locs ls) (kk : lwK p l e s m args below meth c sb i cells slots Q) : W p l e room_1 s m args below meth c H locs cells slots Q (F0 m 2517 ls []) := by
  obtain ⟨h13, F, hIV, hW, hS, hl, hX, hsb, hin, hc1, hc2⟩ := hB
  have hx := F.1
  have hb := F.2.1
  replace hl : lv_has ls 7 [(0, .ref sb), (1, .ref (s.heap.size + 0)), (2, .ref (s.heap.size + 306)), (3, .ref (s.heap.size + 331)), (4, .int i)] := hl
  obtain ⟨x, μ1, v, μ2, hc, hd, hag, hIV2⟩ := i_writeLine (n := 120000) (Nat.le_refl _) hIV (xs (i + 1).toNatClampNeg)
  refine lv_aload_n hx hb dL_law_2517 rfl (lv_at hl 1 rfl) ?_
  refine l_arg (k0 := 0) (k4 := 4) (t := 1) hx hb hX hsb hS hl rfl rfl (hin 1 (by decide)) dL_law_2518 dL_law_2519 dL_law_2521 (by decide) dL_law_2522 dL_law_2523 ?_
  refine lv_aload_n hx hb dL_law_2524 rfl (lv_at hl 3 rfl) ?_
  cases x with
  | inl e9 =>
    obtain ⟨j, hj, hth⟩ := hag
    match j, hj, hth with
    | 0, hj, hth =>
      have e8 : e9 = 2 := (Option.some.inj (show some 2 = some e9 from hj)).symm
      subst e8
      exact l_call (c_L_writeLine_x2 hlT h13 hc) ⟨rfl, rfl⟩ q_1442 q_0 q_1443 ⟨by decide +kernel, by decide +kernel, (show (parseMethodDescriptor yL_writeLine.desc).map (fun d => d.parameters.length) = some 3 by decide +kernel)⟩ F q_1441 ⟨Nat.le_of_ble_eq_true rfl, Nat.le_of_ble_eq_true rfl, by omega, by omega⟩ hW hS hl.1 (Nat.le_of_ble_eq_true rfl) rfl dL_law_2525 (fun n H locs hn hW hS => W.widen (by omega) (by omega) (t_writeLine (gs_13.trans h13) (FX_gs F) hW hS hl hX hsb hin hc1 hc2 hd hIV2 (hth.trans (show jv (((0 : Nat) : Int) + 1) = 1 by decide)) (fun q => absurd q (by decide)) kk))
    | j + 1, hj, _ => exact absurd (show (none : Option Nat) = some e9 from hj) (fun q => nomatch q)
  | inr r =>
    obtain ⟨hth, hv⟩ := hag
    subst hv
    exact l_call (c_L_writeLine_ok hlT h13 hc) ⟨rfl, rfl⟩ q_1442 q_0 q_1443 ⟨by decide +kernel, by decide +kernel, (show (parseMethodDescriptor yL_writeLine.desc).map (fun d => d.parameters.length) = some 3 by decide +kernel)⟩ F q_1441 ⟨Nat.le_of_ble_eq_true rfl, Nat.le_of_ble_eq_true rfl, by omega, by omega⟩ hW hS hl.1 (Nat.le_of_ble_eq_true rfl) rfl dL_law_2525 (fun n H locs hn hW hS => W.widen (by omega) (by omega) (t_writeLine (gs_13.trans h13) (FX_gs F) hW hS hl hX hsb hin hc1 hc2 hd hIV2 (hth.trans (show jv 0 = 0 by decide)) (fun _ => hn _ rfl) kk))
set_option maxHeartbeats 4000000 in
set_option maxRecDepth 100000 in
theorem s_writeTable (hlT : l.stackTraces = false) (hB : lwB p s m args meth c sb L xs i cells slots G μ H locs ls) (kk : lwK p l e s m args below meth c sb i cells slots Q) : W p l e room_1 s m args below meth c H locs cells slots Q (F0 m 2573 ls []) := by
  obtain ⟨h13, F, hIV, hW, hS, hl, hX, hsb, hin, hc1, hc2⟩ := hB
  have hx := F.1
  have hb := F.2.1
  replace hl : lv_has ls 7 [(0, .ref sb), (1, .ref (s.heap.size + 0)), (2, .ref (s.heap.size + 306)), (3, .ref (s.heap.size + 331)), (4, .int i)] := hl
  obtain ⟨v, μ1, μ2, hc, hd, hIV2⟩ := i_writeTable (n := 120000) (Nat.le_refl _) hIV
  refine lv_aload_n hx hb dL_law_2573 rfl (lv_at hl 1 rfl) ?_
  refine k_X11_writeTable F hc q_972 ⟨Nat.le_of_ble_eq_true rfl, Nat.le_of_ble_eq_true rfl, by omega, by omega⟩ hW hS hl.1 (Nat.le_of_ble_eq_true rfl) dL_law_2574 (fun H locs hW hS => ?_)
  refine lv_aload_n hx hb dL_law_2577 rfl (lv_at hl 2 rfl) ?_
  refine k_X12_writeTable F hd q_2158 ⟨Nat.le_of_ble_eq_true rfl, Nat.le_of_ble_eq_true rfl, by omega, by omega⟩ hW hS hl.1 (Nat.le_of_ble_eq_true rfl) dL_law_2578 (fun H locs hW hS => ?_)
  exact lv_icmp_eq (tgt := 2642) hx hb dL_law_2581 (by decide) (fun _ => W.widen (by omega) (by omega) (kk G μ2 H locs ls h13 F hIV2 hW hS hl)) (fun q => absurd rfl q)
set_option maxHeartbeats 4000000 in
set_option maxRecDepth 100000 in
theorem t_outputByte {code9 v : Int32} (h13 : G.2.2.2 13 = 1) (F : FX (fg G) s.heap.size RL cL_law 7 p s m args meth c) (hW : WH (fg G) s.heap.size μ1 H) (hS : va_S (fb s.heap.size) s.heap H locs) (hl : lv_has ls 7 [(0, .ref sb), (1, .ref (s.heap.size + 0)), (2, .ref (s.heap.size + 306)), (3, .ref (s.heap.size + 331)), (4, .int i)]) (hX : va_X sb L xs s s.heap) (hsb : sb < s.heap.size) (hin : ∀ t : Int32, t ∈ [(1 : Int32), 2, 3, 4, 5] → vp_in (i + t) L) (hc1 : cells + 4 ≤ room_1.cells) (hc2 : slots + 24 ≤ room_1.slots)
    (hd : sh_X12_outputByte (xs (i + 1).toNatClampNeg) μ1 = some (v, μ2)) (hIV : IV μ2) (hth : μ2.1 306 0 = code9) (hval : code9 = 0 → Int64.ofNat (G.2.2.2 14) = v.toInt64) (kk : lwK p l e s m args below meth c sb i cells slots Q) : W p l e room_1 s m args below meth c H locs (cells + 4) (slots + 24) Q (F0 m 2597 ls [.int code9]) := by
  have hx := F.1
  have hb := F.2.1
  refine lv_istore (lv' := [(5, .int code9), (0, .ref sb), (1, .ref (s.heap.size + 0)), (2, .ref (s.heap.size + 306)), (3, .ref (s.heap.size + 331)), (4, .int i)]) hx hb dL_law_2597 hl (by decide) rfl (fun ls hl => ?_)
  refine lv_aload_n hx hb dL_law_2599 rfl (lv_at hl 3 rfl) ?_
  refine l_arg (k0 := 1) (k4 := 5) (t := 1) hx hb hX hsb hS hl rfl rfl (hin 1 (by decide)) dL_law_2600 dL_law_2601 dL_law_2603 (by decide) dL_law_2604 dL_law_2605 ?_
  refine k_X12_outputByte F hd q_2162 ⟨Nat.le_of_ble_eq_true rfl, Nat.le_of_ble_eq_true rfl, by omega, by omega⟩ hW hS hl.1 (Nat.le_of_ble_eq_true rfl) dL_law_2606 (fun H locs hW hS => ?_)
  refine lv_istore (lv' := [(6, .int v), (5, .int code9), (0, .ref sb), (1, .ref (s.heap.size + 0)), (2, .ref (s.heap.size + 306)), (3, .ref (s.heap.size + 331)), (4, .int i)]) hx hb dL_law_2609 hl (by decide) rfl (fun ls hl => ?_)
  refine lv_aload_n hx hb dL_law_2611 rfl (lv_at hl 4 rfl) ?_
  refine k_X12_thrown F (show sh_X12_thrown μ2 = some code9 from congrArg some hth) q_1457 ⟨Nat.le_of_ble_eq_true rfl, Nat.le_of_ble_eq_true rfl, by omega, by omega⟩ hW hS hl.1 (Nat.le_of_ble_eq_true rfl) dL_law_2612 (fun H locs hW hS => ?_)
  refine lv_iload hx hb dL_law_2615 (lv_at hl 1 rfl) ?_
  refine lv_icmp_eq (tgt := 2622) hx hb dL_law_2617 (by decide) (fun _ => ?_) (fun q => absurd rfl q)
  refine lv_iload hx hb dL_law_2622 (lv_at hl 1 rfl) ?_
  refine lv_if_ne (tgt := 2639) hx hb dL_law_2624 (by decide) (fun _ => lv_goto (tgt := 2642) hx hb dL_law_2639 (by decide) (kk G μ2 H locs ls h13 F hIV hW hS (lv_sub hl [2, 3, 4, 5, 6] rfl))) (fun h0 => ?_)
  refine lv_aload_n hx hb dL_law_2627 rfl (lv_at hl 5 rfl) ?_
  refine lv_iconst (v := (0 : Int32)) hx hb dL_law_2628 (by decide) ?_
  refine l_out h13 F hW dL_law_2629 ?_
  rw [hval h0]
  refine lv_iload hx hb dL_law_2630 (lv_at hl 0 rfl) ?_
  refine lv_i2l hx hb dL_law_2632 rfl ?_
  refine W.lcmp hx hb dL_law_2633 ?_
  rw [cmp_0]
  exact lv_if_eq (tgt := 2639) hx hb dL_law_2634 (by decide) (fun _ => lv_goto (tgt := 2642) hx hb dL_law_2639 (by decide) (kk G μ2 H locs ls h13 F hIV hW hS (lv_sub hl [2, 3, 4, 5, 6] rfl))) (fun q => absurd rfl q)
set_option maxHeartbeats 4000000 in
set_option maxRecDepth 100000 in
theorem s_outputByte (hlT : l.stackTraces = false) (hB : lwB p s m args meth c sb L xs i cells slots G μ H locs ls) (kk : lwK p l e s m args below meth c sb i cells slots Q) : W p l e room_1 s m args below meth c H locs cells slots Q (F0 m 2586 ls []) := by
  obtain ⟨h13, F, hIV, hW, hS, hl, hX, hsb, hin, hc1, hc2⟩ := hB
  have hx := F.1
  have hb := F.2.1
  replace hl : lv_has ls 7 [(0, .ref sb), (1, .ref (s.heap.size + 0)), (2, .ref (s.heap.size + 306)), (3, .ref (s.heap.size + 331)), (4, .int i)] := hl
  obtain ⟨x, v, μ2, hc, hd, hag, hIV2⟩ := i_outputByte (n := 120000) (Nat.le_refl _) hIV (xs (i + 1).toNatClampNeg)
  refine lv_aload_n hx hb dL_law_2586 rfl (lv_at hl 1 rfl) ?_
  refine l_arg (k0 := 0) (k4 := 4) (t := 1) hx hb hX hsb hS hl rfl rfl (hin 1 (by decide)) dL_law_2587 dL_law_2588 dL_law_2590 (by decide) dL_law_2591 dL_law_2592 ?_
  refine lv_aload_n hx hb dL_law_2593 rfl (lv_at hl 3 rfl) ?_
  cases x with
  | inl e9 =>
    obtain ⟨j, hj, hth⟩ := hag
    match j, hj, hth with
    | 0, hj, hth =>
      have e8 : e9 = 2 := (Option.some.inj (show some 2 = some e9 from hj)).symm
      subst e8
      exact l_call (c_L_outputByte_x2 hlT h13 hc) ⟨rfl, rfl⟩ q_1449 q_0 q_1450 ⟨by decide +kernel, by decide +kernel, (show (parseMethodDescriptor yL_outputByte.desc).map (fun d => d.parameters.length) = some 3 by decide +kernel)⟩ F q_1448 ⟨Nat.le_of_ble_eq_true rfl, Nat.le_of_ble_eq_true rfl, by omega, by omega⟩ hW hS hl.1 (Nat.le_of_ble_eq_true rfl) rfl dL_law_2594 (fun n H locs hn hW hS => W.widen (by omega) (by omega) (t_outputByte (gs_13.trans h13) (FX_gs F) hW hS hl hX hsb hin hc1 hc2 hd hIV2 (hth.trans (show jv (((0 : Nat) : Int) + 1) = 1 by decide)) (fun q => absurd q (by decide)) kk))
    | j + 1, hj, _ => exact absurd (show (none : Option Nat) = some e9 from hj) (fun q => nomatch q)
  | inr r =>
    obtain ⟨hth, hv⟩ := hag
    subst hv
    exact l_call (c_L_outputByte_ok hlT h13 hc) ⟨rfl, rfl⟩ q_1449 q_0 q_1450 ⟨by decide +kernel, by decide +kernel, (show (parseMethodDescriptor yL_outputByte.desc).map (fun d => d.parameters.length) = some 3 by decide +kernel)⟩ F q_1448 ⟨Nat.le_of_ble_eq_true rfl, Nat.le_of_ble_eq_true rfl, by omega, by omega⟩ hW hS hl.1 (Nat.le_of_ble_eq_true rfl) rfl dL_law_2594 (fun n H locs hn hW hS => W.widen (by omega) (by omega) (t_outputByte (gs_13.trans h13) (FX_gs F) hW hS hl hX hsb hin hc1 hc2 hd hIV2 (hth.trans (show jv 0 = 0 by decide)) (fun _ => hn _ rfl) kk))
end CASES
