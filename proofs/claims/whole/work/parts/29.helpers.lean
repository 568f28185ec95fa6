/-! THE LAW'S HELPERS: each a class's call, its value put out, its exceptions told apart -/
abbrev exT (h : ExceptionTableEntry) : Nat × Nat × Nat × Nat := (h.startPc, h.endPc, h.handlerPc, h.catchType)
theorem exT_i {h : ExceptionTableEntry} {a b c d : Nat} (q : exT h = (a, b, c, d)) : h.startPc = a ∧ h.endPc = b ∧ h.handlerPc = c ∧ h.catchType = d := by
  simpa [exT] using q
theorem tab1 {L : List ExceptionTableEntry} {a : Nat × Nat × Nat × Nat} (h : L.map exT = [a]) : ∃ x, L = [x] ∧ exT x = a := by
  match L, h with
  | [x], h => exact ⟨x, rfl, by simpa using h⟩
theorem tab2 {L : List ExceptionTableEntry} {a a' : Nat × Nat × Nat × Nat} (h : L.map exT = [a, a']) : ∃ x y, L = [x, y] ∧ exT x = a ∧ exT y = a' := by
  match L, h with
  | [x, y], h => exact ⟨x, y, rfl, by simpa using h⟩
theorem tab3 {L : List ExceptionTableEntry} {a a' a'' : Nat × Nat × Nat × Nat} (h : L.map exT = [a, a', a'']) : ∃ x y z, L = [x, y, z] ∧ exT x = a ∧ exT y = a' ∧ exT z = a'' := by
  match L, h with
  | [x, y, z], h => exact ⟨x, y, z, rfl, by simpa using h⟩
section HELPS
variable {p : Program} {l : Launch} {e : Env} {R : Room} {s : State} {m : MethodId} {args : Array Value} {below : List Frame} {meth : Method} {c : Code} {H : Heap} {locs : List Loc} {cells slots : Nat} {Q : State → Prop}
variable {cc : ByteArray} {pc : Nat} {ls : Array Slot} {rest : List Value} {G : Gt} {b : Nat} {own : String} {nL : Nat}
theorem h_ret {μ : Mm} {XC : String → State → State → Prop} (F : FX (fg G) b own cc nL p s m args meth c) (hr : meth.sig.returnType = some .int) {code : Int32} {w : Option Int64} {n : Nat} (hw : ∀ x, w = some x → Int64.ofNat n = x) (hW : WH (fg (gs n G)) b μ H) (hS : va_S (fb b) s.heap H locs) (hdg : decode cc pc = .ok (.ireturn, 1)) : W p l e R s m args below meth c H locs cells slots (vx_MQ below (QL G b code w μ) XC args s cells slots (fb b)) (F0 m pc ls [.int code]) :=
  vx_ret (W.iret F.1 F.2.1 hr (fun t ht _ => ⟨rfl, ⟨n, hw, by rw [ht]; exact hW⟩, hS.F ht⟩) hS.2.2 hdg F.2.2.2.2.2.2.2.2)
set_option maxHeartbeats 4000000 in
set_option maxRecDepth 100000 in
theorem c_L_append_ok {l : Launch} (hlT : l.stackTraces = false) {G : Gt} (h13 : G.2.2.2 13 = 1) {b : Nat} {a1 : Int32} {a2 : Int32} {a3 : Int32} {a4 : Int32} {a5 : Int32} {μ : Mm} {μ' : Mm} {v : Int32} (h : sh_X11_append a1 a2 a3 a4 a5 μ = some (.inr (v, μ'))) : vx_Met l yL_append (wU (Cond.codeWith yL_append cL_append 8 (some .int) [(0, 16, 19, 13)])) ({ frames := 7, cells := 1, slots := 6, locals := 115 } : Room) (PcW (fg G) b μ [.ref (b + 0), .int a1, .int a2, .int a3, .int a4, .int a5, .ref (b + 331)]) (QL G b 0 (some v.toInt64) μ') (fun _ _ _ => False) 1 6 (fb b) :=
  hmet_of [.ref (b + 0), .int a1, .int a2, .int a3, .int a4, .int a5, .ref (b + 331)] (by decide) (Nat.le_of_ble_eq_true rfl) (by
  intro p e s m args below meth c ls F hr htab hW hl
  have hx := F.1
  have hb := F.2.1
  replace hl : lv_has ls 8 [(0, .ref (b + 0)), (1, .int a1), (2, .int a2), (3, .int a3), (4, .int a4), (5, .int a5), (6, .ref (b + 331))] := hl
  refine lv_aload hx hb dL_append_0 (lv_at hl 6 rfl) ?_
  refine lv_iconst (v := (0 : Int32)) hx hb dL_append_2 (by decide) ?_
  refine lv_aload_n hx hb dL_append_3 rfl (lv_at hl 0 rfl) ?_
  refine lv_iload_n hx hb dL_append_4 rfl (lv_at hl 1 rfl) ?_
  refine lv_iload_n hx hb dL_append_5 rfl (lv_at hl 2 rfl) ?_
  refine lv_iload_n hx hb dL_append_6 rfl (lv_at hl 3 rfl) ?_
  refine lv_iload hx hb dL_append_7 (lv_at hl 4 rfl) ?_
  refine lv_iload hx hb dL_append_9 (lv_at hl 5 rfl) ?_
  refine k_X11_append F hlT h q_980 ⟨by decide, by decide, Nat.le_of_ble_eq_true rfl, Nat.le_of_ble_eq_true rfl⟩ hW va_S.rf hl.1 (Nat.le_of_ble_eq_true rfl) dL_append_11 (fun q hq => nomatch hq) (fun v hv H locs hW hS => ?_)
  cases hv
  refine lv_i2l hx hb dL_append_14 rfl ?_
  refine n_out h13 F hW hS (i64_nat _) dL_append_15 (fun H locs hW hS => ?_)
  refine lv_goto (tgt := 23) hx hb dL_append_16 (by decide) ?_
  refine lv_iconst (v := (0 : Int32)) hx hb dL_append_23 (by decide) ?_
  exact h_ret F hr (fun x hx => (i64_nat _).trans (Option.some.inj hx)) hW hS dL_append_24)
set_option maxHeartbeats 4000000 in
set_option maxRecDepth 100000 in
theorem c_L_append_x0 {l : Launch} (hlT : l.stackTraces = false) {G : Gt} (h13 : G.2.2.2 13 = 1) {b : Nat} {a1 : Int32} {a2 : Int32} {a3 : Int32} {a4 : Int32} {a5 : Int32} {μ : Mm} {μ' : Mm} (h : sh_X11_append a1 a2 a3 a4 a5 μ = some (.inl (0, μ'))) : vx_Met l yL_append (wU (Cond.codeWith yL_append cL_append 8 (some .int) [(0, 16, 19, 13)])) ({ frames := 7, cells := 1, slots := 6, locals := 115 } : Room) (PcW (fg G) b μ [.ref (b + 0), .int a1, .int a2, .int a3, .int a4, .int a5, .ref (b + 331)]) (QL G b 1 none μ') (fun _ _ _ => False) 1 6 (fb b) :=
  hmet_of [.ref (b + 0), .int a1, .int a2, .int a3, .int a4, .int a5, .ref (b + 331)] (by decide) (Nat.le_of_ble_eq_true rfl) (by
  intro p e s m args below meth c ls F hr htab hW hl
  have hx := F.1
  have hb := F.2.1
  replace hl : lv_has ls 8 [(0, .ref (b + 0)), (1, .int a1), (2, .int a2), (3, .int a3), (4, .int a4), (5, .int a5), (6, .ref (b + 331))] := hl
  refine lv_aload hx hb dL_append_0 (lv_at hl 6 rfl) ?_
  refine lv_iconst (v := (0 : Int32)) hx hb dL_append_2 (by decide) ?_
  refine lv_aload_n hx hb dL_append_3 rfl (lv_at hl 0 rfl) ?_
  refine lv_iload_n hx hb dL_append_4 rfl (lv_at hl 1 rfl) ?_
  refine lv_iload_n hx hb dL_append_5 rfl (lv_at hl 2 rfl) ?_
  refine lv_iload_n hx hb dL_append_6 rfl (lv_at hl 3 rfl) ?_
  refine lv_iload hx hb dL_append_7 (lv_at hl 4 rfl) ?_
  refine lv_iload hx hb dL_append_9 (lv_at hl 5 rfl) ?_
  refine k_X11_append F hlT h q_980 ⟨by decide, by decide, Nat.le_of_ble_eq_true rfl, Nat.le_of_ble_eq_true rfl⟩ hW va_S.rf hl.1 (Nat.le_of_ble_eq_true rfl) dL_append_11 (fun q hq ce q9 H locs hW hS hcell hv hcl => ?_) (fun v hv => nomatch hv)
  cases hq
  obtain ⟨x1, ht, g1⟩ := tab1 htab
  obtain ⟨e01, e02, e03, e04⟩ := exT_i g1
  refine vx_catch (name := exN 0) F.2.2.2.1 [] x1 [] ht (fun z hz => nomatch hz) (by simp [covers, e01, e02]) (by rw [e04]; decide) (by rw [e04]; exact F.2.2.2.2.1 _ q_979) (va_Nw.use rfl (F.2.2.2.2.2.2.1.2.1 (exN 0, exN 0) (by decide +kernel))) hcell hv hcl ?_
  rw [e03]
  refine lv_astore (lv' := [(7, .ref q9), (0, .ref (b + 0)), (1, .int a1), (2, .int a2), (3, .int a3), (4, .int a4), (5, .int a5), (6, .ref (b + 331))]) hx hb dL_append_19 hl (by decide) rfl (fun ls hl => ?_)
  refine lv_iconst (v := (1 : Int32)) hx hb dL_append_21 (by decide) ?_
  exact h_ret (n := G.2.2.2 14) F hr (fun x hx => nomatch hx) (by rw [gs_id]; exact hW) hS dL_append_22)
set_option maxHeartbeats 4000000 in
set_option maxRecDepth 100000 in
theorem c_L_bookPage_ok {l : Launch} (hlT : l.stackTraces = false) {G : Gt} (h13 : G.2.2.2 13 = 1) {b : Nat} {a1 : Int32} {μ : Mm} {v : Int32} (h : sh_X11_bookPage a1 μ = some (.inr v)) : vx_Met l yL_bookPage (wU (Cond.codeWith yL_bookPage cL_bookPage 4 (some .int) [(0, 9, 12, 32)])) ({ frames := 8, cells := 1, slots := 6, locals := 132 } : Room) (PcW (fg G) b μ [.ref (b + 0), .int a1, .ref (b + 331)]) (QL G b 0 (some v.toInt64) μ) (fun _ _ _ => False) 1 6 (fb b) :=
  hmet_of [.ref (b + 0), .int a1, .ref (b + 331)] (by decide) (Nat.le_of_ble_eq_true rfl) (by
  intro p e s m args below meth c ls F hr htab hW hl
  have hx := F.1
  have hb := F.2.1
  replace hl : lv_has ls 4 [(0, .ref (b + 0)), (1, .int a1), (2, .ref (b + 331))] := hl
  refine lv_aload_n hx hb dL_bookPage_0 rfl (lv_at hl 2 rfl) ?_
  refine lv_iconst (v := (0 : Int32)) hx hb dL_bookPage_1 (by decide) ?_
  refine lv_aload_n hx hb dL_bookPage_2 rfl (lv_at hl 0 rfl) ?_
  refine lv_iload_n hx hb dL_bookPage_3 rfl (lv_at hl 1 rfl) ?_
  refine k_X11_bookPage F hlT h q_1143 ⟨by decide, by decide, Nat.le_of_ble_eq_true rfl, Nat.le_of_ble_eq_true rfl⟩ hW va_S.rf hl.1 (Nat.le_of_ble_eq_true rfl) dL_bookPage_4 (fun q hq => nomatch hq) (fun v hv H locs hW hS => ?_)
  cases hv
  refine lv_i2l hx hb dL_bookPage_7 rfl ?_
  refine n_out h13 F hW hS (i64_nat _) dL_bookPage_8 (fun H locs hW hS => ?_)
  refine lv_goto (tgt := 15) hx hb dL_bookPage_9 (by decide) ?_
  refine lv_iconst (v := (0 : Int32)) hx hb dL_bookPage_15 (by decide) ?_
  exact h_ret F hr (fun x hx => (i64_nat _).trans (Option.some.inj hx)) hW hS dL_bookPage_16)
set_option maxHeartbeats 4000000 in
set_option maxRecDepth 100000 in
theorem c_L_bookPage_x2 {l : Launch} (hlT : l.stackTraces = false) {G : Gt} (h13 : G.2.2.2 13 = 1) {b : Nat} {a1 : Int32} {μ : Mm} (h : sh_X11_bookPage a1 μ = some (.inl 2)) : vx_Met l yL_bookPage (wU (Cond.codeWith yL_bookPage cL_bookPage 4 (some .int) [(0, 9, 12, 32)])) ({ frames := 8, cells := 1, slots := 6, locals := 132 } : Room) (PcW (fg G) b μ [.ref (b + 0), .int a1, .ref (b + 331)]) (QL G b 1 none μ) (fun _ _ _ => False) 1 6 (fb b) :=
  hmet_of [.ref (b + 0), .int a1, .ref (b + 331)] (by decide) (Nat.le_of_ble_eq_true rfl) (by
  intro p e s m args below meth c ls F hr htab hW hl
  have hx := F.1
  have hb := F.2.1
  replace hl : lv_has ls 4 [(0, .ref (b + 0)), (1, .int a1), (2, .ref (b + 331))] := hl
  refine lv_aload_n hx hb dL_bookPage_0 rfl (lv_at hl 2 rfl) ?_
  refine lv_iconst (v := (0 : Int32)) hx hb dL_bookPage_1 (by decide) ?_
  refine lv_aload_n hx hb dL_bookPage_2 rfl (lv_at hl 0 rfl) ?_
  refine lv_iload_n hx hb dL_bookPage_3 rfl (lv_at hl 1 rfl) ?_
  refine k_X11_bookPage F hlT h q_1143 ⟨by decide, by decide, Nat.le_of_ble_eq_true rfl, Nat.le_of_ble_eq_true rfl⟩ hW va_S.rf hl.1 (Nat.le_of_ble_eq_true rfl) dL_bookPage_4 (fun q hq ce q9 H locs hW hS hcell hv hcl => ?_) (fun v hv => nomatch hv)
  cases hq
  obtain ⟨x1, ht, g1⟩ := tab1 htab
  obtain ⟨e01, e02, e03, e04⟩ := exT_i g1
  refine vx_catch (name := exN 2) F.2.2.2.1 [] x1 [] ht (fun z hz => nomatch hz) (by simp [covers, e01, e02]) (by rw [e04]; decide) (by rw [e04]; exact F.2.2.2.2.1 _ q_1099) (va_Nw.use rfl (F.2.2.2.2.2.2.1.2.1 (exN 2, exN 2) (by decide +kernel))) hcell hv hcl ?_
  rw [e03]
  refine lv_astore_n (i := 3) (lv' := [(3, .ref q9), (0, .ref (b + 0)), (1, .int a1), (2, .ref (b + 331))]) hx hb dL_bookPage_12 rfl hl (by decide) rfl (fun ls hl => ?_)
  refine lv_iconst (v := (1 : Int32)) hx hb dL_bookPage_13 (by decide) ?_
  exact h_ret (n := G.2.2.2 14) F hr (fun x hx => nomatch hx) (by rw [gs_id]; exact hW) hS dL_bookPage_14)
set_option maxHeartbeats 4000000 in
set_option maxRecDepth 100000 in
theorem c_L_collides_ok {l : Launch} (hlT : l.stackTraces = false) {G : Gt} (h13 : G.2.2.2 13 = 1) {b : Nat} {n : Nat} {a1 : Int32} {μ : Mm} {v : Int32} (h : sh_X11_collides n a1 μ = some (.inr v)) : vx_Met l yL_collides (wU (Cond.codeWith yL_collides cL_collides 4 (some .int) [(0, 16, 19, 32)])) ({ frames := 8, cells := 1, slots := 6, locals := 133 } : Room) (PcW (fg G) b μ [.ref (b + 0), .int a1, .ref (b + 331)]) (QL G b 0 (some (if v = 0 then 0 else 1)) μ) (fun _ _ _ => False) 1 6 (fb b) :=
  hmet_of [.ref (b + 0), .int a1, .ref (b + 331)] (by decide) (Nat.le_of_ble_eq_true rfl) (by
  intro p e s m args below meth c ls F hr htab hW hl
  have hx := F.1
  have hb := F.2.1
  replace hl : lv_has ls 4 [(0, .ref (b + 0)), (1, .int a1), (2, .ref (b + 331))] := hl
  refine lv_aload_n hx hb dL_collides_0 rfl (lv_at hl 2 rfl) ?_
  refine lv_iconst (v := (0 : Int32)) hx hb dL_collides_1 (by decide) ?_
  refine lv_aload_n hx hb dL_collides_2 rfl (lv_at hl 0 rfl) ?_
  refine lv_iload_n hx hb dL_collides_3 rfl (lv_at hl 1 rfl) ?_
  refine k_X11_collides F hlT h q_1266 ⟨by decide, by decide, Nat.le_of_ble_eq_true rfl, Nat.le_of_ble_eq_true rfl⟩ hW va_S.rf hl.1 (Nat.le_of_ble_eq_true rfl) dL_collides_4 (fun q hq => nomatch hq) (fun v hv H locs hW hS => ?_)
  cases hv
  refine lv_if_eq (tgt := 14) hx hb dL_collides_7 (by decide) (fun cc => ?_) (fun cc => ?_)
  · refine lv_lconst (v := (0 : Int64)) hx hb dL_collides_14 rfl ?_
    refine n_out (n := 0) h13 F hW hS (x := 0) rfl dL_collides_15 (fun H locs hW hS => ?_)
    refine lv_goto (tgt := 22) hx hb dL_collides_16 (by decide) ?_
    refine lv_iconst (v := (0 : Int32)) hx hb dL_collides_22 (by decide) ?_
    exact h_ret F hr (fun x hx => by rw [if_pos cc] at hx; exact Option.some.inj hx) hW hS dL_collides_23
  · refine lv_lconst (v := (1 : Int64)) hx hb dL_collides_10 rfl ?_
    refine lv_goto (tgt := 15) hx hb dL_collides_11 (by decide) ?_
    refine n_out (n := 1) h13 F hW hS (x := 1) rfl dL_collides_15 (fun H locs hW hS => ?_)
    refine lv_goto (tgt := 22) hx hb dL_collides_16 (by decide) ?_
    refine lv_iconst (v := (0 : Int32)) hx hb dL_collides_22 (by decide) ?_
    exact h_ret F hr (fun x hx => by rw [if_neg cc] at hx; exact Option.some.inj hx) hW hS dL_collides_23)
set_option maxHeartbeats 4000000 in
set_option maxRecDepth 100000 in
theorem c_L_collides_x2 {l : Launch} (hlT : l.stackTraces = false) {G : Gt} (h13 : G.2.2.2 13 = 1) {b : Nat} {n : Nat} {a1 : Int32} {μ : Mm} (h : sh_X11_collides n a1 μ = some (.inl 2)) : vx_Met l yL_collides (wU (Cond.codeWith yL_collides cL_collides 4 (some .int) [(0, 16, 19, 32)])) ({ frames := 8, cells := 1, slots := 6, locals := 133 } : Room) (PcW (fg G) b μ [.ref (b + 0), .int a1, .ref (b + 331)]) (QL G b 1 none μ) (fun _ _ _ => False) 1 6 (fb b) :=
  hmet_of [.ref (b + 0), .int a1, .ref (b + 331)] (by decide) (Nat.le_of_ble_eq_true rfl) (by
  intro p e s m args below meth c ls F hr htab hW hl
  have hx := F.1
  have hb := F.2.1
  replace hl : lv_has ls 4 [(0, .ref (b + 0)), (1, .int a1), (2, .ref (b + 331))] := hl
  refine lv_aload_n hx hb dL_collides_0 rfl (lv_at hl 2 rfl) ?_
  refine lv_iconst (v := (0 : Int32)) hx hb dL_collides_1 (by decide) ?_
  refine lv_aload_n hx hb dL_collides_2 rfl (lv_at hl 0 rfl) ?_
  refine lv_iload_n hx hb dL_collides_3 rfl (lv_at hl 1 rfl) ?_
  refine k_X11_collides F hlT h q_1266 ⟨by decide, by decide, Nat.le_of_ble_eq_true rfl, Nat.le_of_ble_eq_true rfl⟩ hW va_S.rf hl.1 (Nat.le_of_ble_eq_true rfl) dL_collides_4 (fun q hq ce q9 H locs hW hS hcell hv hcl => ?_) (fun v hv => nomatch hv)
  cases hq
  obtain ⟨x1, ht, g1⟩ := tab1 htab
  obtain ⟨e01, e02, e03, e04⟩ := exT_i g1
  refine vx_catch (name := exN 2) F.2.2.2.1 [] x1 [] ht (fun z hz => nomatch hz) (by simp [covers, e01, e02]) (by rw [e04]; decide) (by rw [e04]; exact F.2.2.2.2.1 _ q_1099) (va_Nw.use rfl (F.2.2.2.2.2.2.1.2.1 (exN 2, exN 2) (by decide +kernel))) hcell hv hcl ?_
  rw [e03]
  refine lv_astore_n (i := 3) (lv' := [(3, .ref q9), (0, .ref (b + 0)), (1, .int a1), (2, .ref (b + 331))]) hx hb dL_collides_19 rfl hl (by decide) rfl (fun ls hl => ?_)
  refine lv_iconst (v := (1 : Int32)) hx hb dL_collides_20 (by decide) ?_
  exact h_ret (n := G.2.2.2 14) F hr (fun x hx => nomatch hx) (by rw [gs_id]; exact hW) hS dL_collides_21)
set_option maxHeartbeats 4000000 in
set_option maxRecDepth 100000 in
theorem c_L_count_ok {l : Launch} (hlT : l.stackTraces = false) {G : Gt} (h13 : G.2.2.2 13 = 1) {b : Nat} {a1 : Int32} {μ : Mm} {v : Int32} (h : sh_X11_count a1 μ = some (.inr v)) : vx_Met l yL_count (wU (Cond.codeWith yL_count cL_count 4 (some .int) [(0, 9, 12, 19)])) ({ frames := 7, cells := 1, slots := 6, locals := 111 } : Room) (PcW (fg G) b μ [.ref (b + 0), .int a1, .ref (b + 331)]) (QL G b 0 (some v.toInt64) μ) (fun _ _ _ => False) 1 6 (fb b) :=
  hmet_of [.ref (b + 0), .int a1, .ref (b + 331)] (by decide) (Nat.le_of_ble_eq_true rfl) (by
  intro p e s m args below meth c ls F hr htab hW hl
  have hx := F.1
  have hb := F.2.1
  replace hl : lv_has ls 4 [(0, .ref (b + 0)), (1, .int a1), (2, .ref (b + 331))] := hl
  refine lv_aload_n hx hb dL_count_0 rfl (lv_at hl 2 rfl) ?_
  refine lv_iconst (v := (0 : Int32)) hx hb dL_count_1 (by decide) ?_
  refine lv_aload_n hx hb dL_count_2 rfl (lv_at hl 0 rfl) ?_
  refine lv_iload_n hx hb dL_count_3 rfl (lv_at hl 1 rfl) ?_
  refine k_X11_count F hlT h q_1083 ⟨by decide, by decide, Nat.le_of_ble_eq_true rfl, Nat.le_of_ble_eq_true rfl⟩ hW va_S.rf hl.1 (Nat.le_of_ble_eq_true rfl) dL_count_4 (fun q hq => nomatch hq) (fun v hv H locs hW hS => ?_)
  cases hv
  refine lv_i2l hx hb dL_count_7 rfl ?_
  refine n_out h13 F hW hS (i64_nat _) dL_count_8 (fun H locs hW hS => ?_)
  refine lv_goto (tgt := 15) hx hb dL_count_9 (by decide) ?_
  refine lv_iconst (v := (0 : Int32)) hx hb dL_count_15 (by decide) ?_
  exact h_ret F hr (fun x hx => (i64_nat _).trans (Option.some.inj hx)) hW hS dL_count_16)
set_option maxHeartbeats 4000000 in
set_option maxRecDepth 100000 in
theorem c_L_count_x1 {l : Launch} (hlT : l.stackTraces = false) {G : Gt} (h13 : G.2.2.2 13 = 1) {b : Nat} {a1 : Int32} {μ : Mm} (h : sh_X11_count a1 μ = some (.inl 1)) : vx_Met l yL_count (wU (Cond.codeWith yL_count cL_count 4 (some .int) [(0, 9, 12, 19)])) ({ frames := 7, cells := 1, slots := 6, locals := 111 } : Room) (PcW (fg G) b μ [.ref (b + 0), .int a1, .ref (b + 331)]) (QL G b 1 none μ) (fun _ _ _ => False) 1 6 (fb b) :=
  hmet_of [.ref (b + 0), .int a1, .ref (b + 331)] (by decide) (Nat.le_of_ble_eq_true rfl) (by
  intro p e s m args below meth c ls F hr htab hW hl
  have hx := F.1
  have hb := F.2.1
  replace hl : lv_has ls 4 [(0, .ref (b + 0)), (1, .int a1), (2, .ref (b + 331))] := hl
  refine lv_aload_n hx hb dL_count_0 rfl (lv_at hl 2 rfl) ?_
  refine lv_iconst (v := (0 : Int32)) hx hb dL_count_1 (by decide) ?_
  refine lv_aload_n hx hb dL_count_2 rfl (lv_at hl 0 rfl) ?_
  refine lv_iload_n hx hb dL_count_3 rfl (lv_at hl 1 rfl) ?_
  refine k_X11_count F hlT h q_1083 ⟨by decide, by decide, Nat.le_of_ble_eq_true rfl, Nat.le_of_ble_eq_true rfl⟩ hW va_S.rf hl.1 (Nat.le_of_ble_eq_true rfl) dL_count_4 (fun q hq ce q9 H locs hW hS hcell hv hcl => ?_) (fun v hv => nomatch hv)
  cases hq
  obtain ⟨x1, ht, g1⟩ := tab1 htab
  obtain ⟨e01, e02, e03, e04⟩ := exT_i g1
  refine vx_catch (name := exN 1) F.2.2.2.1 [] x1 [] ht (fun z hz => nomatch hz) (by simp [covers, e01, e02]) (by rw [e04]; decide) (by rw [e04]; exact F.2.2.2.2.1 _ q_1059) (va_Nw.use rfl (F.2.2.2.2.2.2.1.2.1 (exN 1, exN 1) (by decide +kernel))) hcell hv hcl ?_
  rw [e03]
  refine lv_astore_n (i := 3) (lv' := [(3, .ref q9), (0, .ref (b + 0)), (1, .int a1), (2, .ref (b + 331))]) hx hb dL_count_12 rfl hl (by decide) rfl (fun ls hl => ?_)
  refine lv_iconst (v := (1 : Int32)) hx hb dL_count_13 (by decide) ?_
  exact h_ret (n := G.2.2.2 14) F hr (fun x hx => nomatch hx) (by rw [gs_id]; exact hW) hS dL_count_14)
set_option maxHeartbeats 4000000 in
set_option maxRecDepth 100000 in
theorem c_L_crowded_ok {l : Launch} (hlT : l.stackTraces = false) {G : Gt} (h13 : G.2.2.2 13 = 1) {b : Nat} {n : Nat} {a1 : Int32} {μ : Mm} {v : Int32} (h : sh_X11_crowded n a1 μ = some (.inr v)) : vx_Met l yL_crowded (wU (Cond.codeWith yL_crowded cL_crowded 4 (some .int) [(0, 9, 12, 19)])) ({ frames := 8, cells := 1, slots := 6, locals := 133 } : Room) (PcW (fg G) b μ [.ref (b + 0), .int a1, .ref (b + 331)]) (QL G b 0 (some v.toInt64) μ) (fun _ _ _ => False) 1 6 (fb b) :=
  hmet_of [.ref (b + 0), .int a1, .ref (b + 331)] (by decide) (Nat.le_of_ble_eq_true rfl) (by
  intro p e s m args below meth c ls F hr htab hW hl
  have hx := F.1
  have hb := F.2.1
  replace hl : lv_has ls 4 [(0, .ref (b + 0)), (1, .int a1), (2, .ref (b + 331))] := hl
  refine lv_aload_n hx hb dL_crowded_0 rfl (lv_at hl 2 rfl) ?_
  refine lv_iconst (v := (0 : Int32)) hx hb dL_crowded_1 (by decide) ?_
  refine lv_aload_n hx hb dL_crowded_2 rfl (lv_at hl 0 rfl) ?_
  refine lv_iload_n hx hb dL_crowded_3 rfl (lv_at hl 1 rfl) ?_
  refine k_X11_crowded F hlT h q_1401 ⟨by decide, by decide, Nat.le_of_ble_eq_true rfl, Nat.le_of_ble_eq_true rfl⟩ hW va_S.rf hl.1 (Nat.le_of_ble_eq_true rfl) dL_crowded_4 (fun q hq => nomatch hq) (fun v hv H locs hW hS => ?_)
  cases hv
  refine lv_i2l hx hb dL_crowded_7 rfl ?_
  refine n_out h13 F hW hS (i64_nat _) dL_crowded_8 (fun H locs hW hS => ?_)
  refine lv_goto (tgt := 15) hx hb dL_crowded_9 (by decide) ?_
  refine lv_iconst (v := (0 : Int32)) hx hb dL_crowded_15 (by decide) ?_
  exact h_ret F hr (fun x hx => (i64_nat _).trans (Option.some.inj hx)) hW hS dL_crowded_16)
set_option maxHeartbeats 4000000 in
set_option maxRecDepth 100000 in
theorem c_L_crowded_x1 {l : Launch} (hlT : l.stackTraces = false) {G : Gt} (h13 : G.2.2.2 13 = 1) {b : Nat} {n : Nat} {a1 : Int32} {μ : Mm} (h : sh_X11_crowded n a1 μ = some (.inl 1)) : vx_Met l yL_crowded (wU (Cond.codeWith yL_crowded cL_crowded 4 (some .int) [(0, 9, 12, 19)])) ({ frames := 8, cells := 1, slots := 6, locals := 133 } : Room) (PcW (fg G) b μ [.ref (b + 0), .int a1, .ref (b + 331)]) (QL G b 1 none μ) (fun _ _ _ => False) 1 6 (fb b) :=
  hmet_of [.ref (b + 0), .int a1, .ref (b + 331)] (by decide) (Nat.le_of_ble_eq_true rfl) (by
  intro p e s m args below meth c ls F hr htab hW hl
  have hx := F.1
  have hb := F.2.1
  replace hl : lv_has ls 4 [(0, .ref (b + 0)), (1, .int a1), (2, .ref (b + 331))] := hl
  refine lv_aload_n hx hb dL_crowded_0 rfl (lv_at hl 2 rfl) ?_
  refine lv_iconst (v := (0 : Int32)) hx hb dL_crowded_1 (by decide) ?_
  refine lv_aload_n hx hb dL_crowded_2 rfl (lv_at hl 0 rfl) ?_
  refine lv_iload_n hx hb dL_crowded_3 rfl (lv_at hl 1 rfl) ?_
  refine k_X11_crowded F hlT h q_1401 ⟨by decide, by decide, Nat.le_of_ble_eq_true rfl, Nat.le_of_ble_eq_true rfl⟩ hW va_S.rf hl.1 (Nat.le_of_ble_eq_true rfl) dL_crowded_4 (fun q hq ce q9 H locs hW hS hcell hv hcl => ?_) (fun v hv => nomatch hv)
  cases hq
  obtain ⟨x1, ht, g1⟩ := tab1 htab
  obtain ⟨e01, e02, e03, e04⟩ := exT_i g1
  refine vx_catch (name := exN 1) F.2.2.2.1 [] x1 [] ht (fun z hz => nomatch hz) (by simp [covers, e01, e02]) (by rw [e04]; decide) (by rw [e04]; exact F.2.2.2.2.1 _ q_1059) (va_Nw.use rfl (F.2.2.2.2.2.2.1.2.1 (exN 1, exN 1) (by decide +kernel))) hcell hv hcl ?_
  rw [e03]
  refine lv_astore_n (i := 3) (lv' := [(3, .ref q9), (0, .ref (b + 0)), (1, .int a1), (2, .ref (b + 331))]) hx hb dL_crowded_12 rfl hl (by decide) rfl (fun ls hl => ?_)
  refine lv_iconst (v := (1 : Int32)) hx hb dL_crowded_13 (by decide) ?_
  exact h_ret (n := G.2.2.2 14) F hr (fun x hx => nomatch hx) (by rw [gs_id]; exact hW) hS dL_crowded_14)
set_option maxHeartbeats 4000000 in
set_option maxRecDepth 100000 in
theorem c_L_dotCount_ok {l : Launch} (hlT : l.stackTraces = false) {G : Gt} (h13 : G.2.2.2 13 = 1) {b : Nat} {a1 : Int32} {μ : Mm} {v : Int32} (h : sh_X11_dotCount a1 μ = some (.inr v)) : vx_Met l yL_dotCount (wU (Cond.codeWith yL_dotCount cL_dotCount 4 (some .int) [(0, 9, 12, 32), (0, 9, 15, 67)])) ({ frames := 8, cells := 2, slots := 12, locals := 132 } : Room) (PcW (fg G) b μ [.ref (b + 0), .int a1, .ref (b + 331)]) (QL G b 0 (some v.toInt64) μ) (fun _ _ _ => False) 2 12 (fb b) :=
  hmet_of [.ref (b + 0), .int a1, .ref (b + 331)] (by decide) (Nat.le_of_ble_eq_true rfl) (by
  intro p e s m args below meth c ls F hr htab hW hl
  have hx := F.1
  have hb := F.2.1
  replace hl : lv_has ls 4 [(0, .ref (b + 0)), (1, .int a1), (2, .ref (b + 331))] := hl
  refine lv_aload_n hx hb dL_dotCount_0 rfl (lv_at hl 2 rfl) ?_
  refine lv_iconst (v := (0 : Int32)) hx hb dL_dotCount_1 (by decide) ?_
  refine lv_aload_n hx hb dL_dotCount_2 rfl (lv_at hl 0 rfl) ?_
  refine lv_iload_n hx hb dL_dotCount_3 rfl (lv_at hl 1 rfl) ?_
  refine k_X11_dotCount F hlT h q_1211 ⟨by decide, by decide, Nat.le_of_ble_eq_true rfl, Nat.le_of_ble_eq_true rfl⟩ hW va_S.rf hl.1 (Nat.le_of_ble_eq_true rfl) dL_dotCount_4 (fun q hq => nomatch hq) (fun v hv H locs hW hS => ?_)
  cases hv
  refine lv_i2l hx hb dL_dotCount_7 rfl ?_
  refine n_out h13 F hW hS (i64_nat _) dL_dotCount_8 (fun H locs hW hS => ?_)
  refine lv_goto (tgt := 18) hx hb dL_dotCount_9 (by decide) ?_
  refine lv_iconst (v := (0 : Int32)) hx hb dL_dotCount_18 (by decide) ?_
  exact h_ret F hr (fun x hx => (i64_nat _).trans (Option.some.inj hx)) hW hS dL_dotCount_19)
set_option maxHeartbeats 4000000 in
set_option maxRecDepth 100000 in
theorem c_L_dotCount_x2 {l : Launch} (hlT : l.stackTraces = false) {G : Gt} (h13 : G.2.2.2 13 = 1) {b : Nat} {a1 : Int32} {μ : Mm} (h : sh_X11_dotCount a1 μ = some (.inl 2)) : vx_Met l yL_dotCount (wU (Cond.codeWith yL_dotCount cL_dotCount 4 (some .int) [(0, 9, 12, 32), (0, 9, 15, 67)])) ({ frames := 8, cells := 2, slots := 12, locals := 132 } : Room) (PcW (fg G) b μ [.ref (b + 0), .int a1, .ref (b + 331)]) (QL G b 1 none μ) (fun _ _ _ => False) 2 12 (fb b) :=
  hmet_of [.ref (b + 0), .int a1, .ref (b + 331)] (by decide) (Nat.le_of_ble_eq_true rfl) (by
  intro p e s m args below meth c ls F hr htab hW hl
  have hx := F.1
  have hb := F.2.1
  replace hl : lv_has ls 4 [(0, .ref (b + 0)), (1, .int a1), (2, .ref (b + 331))] := hl
  refine lv_aload_n hx hb dL_dotCount_0 rfl (lv_at hl 2 rfl) ?_
  refine lv_iconst (v := (0 : Int32)) hx hb dL_dotCount_1 (by decide) ?_
  refine lv_aload_n hx hb dL_dotCount_2 rfl (lv_at hl 0 rfl) ?_
  refine lv_iload_n hx hb dL_dotCount_3 rfl (lv_at hl 1 rfl) ?_
  refine k_X11_dotCount F hlT h q_1211 ⟨by decide, by decide, Nat.le_of_ble_eq_true rfl, Nat.le_of_ble_eq_true rfl⟩ hW va_S.rf hl.1 (Nat.le_of_ble_eq_true rfl) dL_dotCount_4 (fun q hq ce q9 H locs hW hS hcell hv hcl => ?_) (fun v hv => nomatch hv)
  cases hq
  obtain ⟨x1, x2, ht, g1, g2⟩ := tab2 htab
  obtain ⟨e01, e02, e03, e04⟩ := exT_i g1
  obtain ⟨e11, e12, e13, e14⟩ := exT_i g2
  refine vx_catch (name := exN 2) F.2.2.2.1 [] x1 [x2] ht (fun z hz => nomatch hz) (by simp [covers, e01, e02]) (by rw [e04]; decide) (by rw [e04]; exact F.2.2.2.2.1 _ q_1099) (va_Nw.use rfl (F.2.2.2.2.2.2.1.2.1 (exN 2, exN 2) (by decide +kernel))) hcell hv hcl ?_
  rw [e03]
  refine lv_astore_n (i := 3) (lv' := [(3, .ref q9), (0, .ref (b + 0)), (1, .int a1), (2, .ref (b + 331))]) hx hb dL_dotCount_12 rfl hl (by decide) rfl (fun ls hl => ?_)
  refine lv_iconst (v := (1 : Int32)) hx hb dL_dotCount_13 (by decide) ?_
  exact h_ret (n := G.2.2.2 14) F hr (fun x hx => nomatch hx) (by rw [gs_id]; exact hW) hS dL_dotCount_14)
set_option maxHeartbeats 4000000 in
set_option maxRecDepth 100000 in
theorem c_L_dotCount_x3 {l : Launch} (hlT : l.stackTraces = false) {G : Gt} (h13 : G.2.2.2 13 = 1) {b : Nat} {a1 : Int32} {μ : Mm} (h : sh_X11_dotCount a1 μ = some (.inl 3)) : vx_Met l yL_dotCount (wU (Cond.codeWith yL_dotCount cL_dotCount 4 (some .int) [(0, 9, 12, 32), (0, 9, 15, 67)])) ({ frames := 8, cells := 2, slots := 12, locals := 132 } : Room) (PcW (fg G) b μ [.ref (b + 0), .int a1, .ref (b + 331)]) (QL G b 2 none μ) (fun _ _ _ => False) 2 12 (fb b) :=
  hmet_of [.ref (b + 0), .int a1, .ref (b + 331)] (by decide) (Nat.le_of_ble_eq_true rfl) (by
  intro p e s m args below meth c ls F hr htab hW hl
  have hx := F.1
  have hb := F.2.1
  replace hl : lv_has ls 4 [(0, .ref (b + 0)), (1, .int a1), (2, .ref (b + 331))] := hl
  refine lv_aload_n hx hb dL_dotCount_0 rfl (lv_at hl 2 rfl) ?_
  refine lv_iconst (v := (0 : Int32)) hx hb dL_dotCount_1 (by decide) ?_
  refine lv_aload_n hx hb dL_dotCount_2 rfl (lv_at hl 0 rfl) ?_
  refine lv_iload_n hx hb dL_dotCount_3 rfl (lv_at hl 1 rfl) ?_
  refine k_X11_dotCount F hlT h q_1211 ⟨by decide, by decide, Nat.le_of_ble_eq_true rfl, Nat.le_of_ble_eq_true rfl⟩ hW va_S.rf hl.1 (Nat.le_of_ble_eq_true rfl) dL_dotCount_4 (fun q hq ce q9 H locs hW hS hcell hv hcl => ?_) (fun v hv => nomatch hv)
  cases hq
  obtain ⟨x1, x2, ht, g1, g2⟩ := tab2 htab
  obtain ⟨e01, e02, e03, e04⟩ := exT_i g1
  obtain ⟨e11, e12, e13, e14⟩ := exT_i g2
  refine vx_catch (name := exN 3) F.2.2.2.1 [x1] x2 [] ht (fun z hz => by
    simp only [List.mem_cons, List.not_mem_nil, or_false] at hz
    subst hz
    · exact Or.inr ⟨by rw [e04]; decide, exN 2, by rw [e04]; exact F.2.2.2.2.1 _ q_1099, F.2.2.2.2.2.2.1.2.2.1 (exN 3, exN 2) (by decide +kernel)⟩) (by simp [covers, e11, e12]) (by rw [e14]; decide) (by rw [e14]; exact F.2.2.2.2.1 _ q_1210) (va_Nw.use rfl (F.2.2.2.2.2.2.1.2.1 (exN 3, exN 3) (by decide +kernel))) hcell hv hcl ?_
  rw [e13]
  refine lv_astore_n (i := 3) (lv' := [(3, .ref q9), (0, .ref (b + 0)), (1, .int a1), (2, .ref (b + 331))]) hx hb dL_dotCount_15 rfl hl (by decide) rfl (fun ls hl => ?_)
  refine lv_iconst (v := (2 : Int32)) hx hb dL_dotCount_16 (by decide) ?_
  exact h_ret (n := G.2.2.2 14) F hr (fun x hx => nomatch hx) (by rw [gs_id]; exact hW) hS dL_dotCount_17)
set_option maxHeartbeats 4000000 in
set_option maxRecDepth 100000 in
theorem c_L_dotsAt_ok {l : Launch} (hlT : l.stackTraces = false) {G : Gt} (h13 : G.2.2.2 13 = 1) {b : Nat} {n : Nat} {a1 : Int32} {μ : Mm} {v : Int32} (h : sh_X11_dotsAt n a1 μ = some (.inr v)) : vx_Met l yL_dotsAt (wU (Cond.codeWith yL_dotsAt cL_dotsAt 4 (some .int) [(0, 9, 12, 19)])) ({ frames := 7, cells := 1, slots := 6, locals := 113 } : Room) (PcW (fg G) b μ [.ref (b + 0), .int a1, .ref (b + 331)]) (QL G b 0 (some v.toInt64) μ) (fun _ _ _ => False) 1 6 (fb b) :=
  hmet_of [.ref (b + 0), .int a1, .ref (b + 331)] (by decide) (Nat.le_of_ble_eq_true rfl) (by
  intro p e s m args below meth c ls F hr htab hW hl
  have hx := F.1
  have hb := F.2.1
  replace hl : lv_has ls 4 [(0, .ref (b + 0)), (1, .int a1), (2, .ref (b + 331))] := hl
  refine lv_aload_n hx hb dL_dotsAt_0 rfl (lv_at hl 2 rfl) ?_
  refine lv_iconst (v := (0 : Int32)) hx hb dL_dotsAt_1 (by decide) ?_
  refine lv_aload_n hx hb dL_dotsAt_2 rfl (lv_at hl 0 rfl) ?_
  refine lv_iload_n hx hb dL_dotsAt_3 rfl (lv_at hl 1 rfl) ?_
  refine k_X11_dotsAt F hlT h q_1246 ⟨by decide, by decide, Nat.le_of_ble_eq_true rfl, Nat.le_of_ble_eq_true rfl⟩ hW va_S.rf hl.1 (Nat.le_of_ble_eq_true rfl) dL_dotsAt_4 (fun q hq => nomatch hq) (fun v hv H locs hW hS => ?_)
  cases hv
  refine lv_i2l hx hb dL_dotsAt_7 rfl ?_
  refine n_out h13 F hW hS (i64_nat _) dL_dotsAt_8 (fun H locs hW hS => ?_)
  refine lv_goto (tgt := 15) hx hb dL_dotsAt_9 (by decide) ?_
  refine lv_iconst (v := (0 : Int32)) hx hb dL_dotsAt_15 (by decide) ?_
  exact h_ret F hr (fun x hx => (i64_nat _).trans (Option.some.inj hx)) hW hS dL_dotsAt_16)
set_option maxHeartbeats 4000000 in
set_option maxRecDepth 100000 in
theorem c_L_dotsAt_x1 {l : Launch} (hlT : l.stackTraces = false) {G : Gt} (h13 : G.2.2.2 13 = 1) {b : Nat} {n : Nat} {a1 : Int32} {μ : Mm} (h : sh_X11_dotsAt n a1 μ = some (.inl 1)) : vx_Met l yL_dotsAt (wU (Cond.codeWith yL_dotsAt cL_dotsAt 4 (some .int) [(0, 9, 12, 19)])) ({ frames := 7, cells := 1, slots := 6, locals := 113 } : Room) (PcW (fg G) b μ [.ref (b + 0), .int a1, .ref (b + 331)]) (QL G b 1 none μ) (fun _ _ _ => False) 1 6 (fb b) :=
  hmet_of [.ref (b + 0), .int a1, .ref (b + 331)] (by decide) (Nat.le_of_ble_eq_true rfl) (by
  intro p e s m args below meth c ls F hr htab hW hl
  have hx := F.1
  have hb := F.2.1
  replace hl : lv_has ls 4 [(0, .ref (b + 0)), (1, .int a1), (2, .ref (b + 331))] := hl
  refine lv_aload_n hx hb dL_dotsAt_0 rfl (lv_at hl 2 rfl) ?_
  refine lv_iconst (v := (0 : Int32)) hx hb dL_dotsAt_1 (by decide) ?_
  refine lv_aload_n hx hb dL_dotsAt_2 rfl (lv_at hl 0 rfl) ?_
  refine lv_iload_n hx hb dL_dotsAt_3 rfl (lv_at hl 1 rfl) ?_
  refine k_X11_dotsAt F hlT h q_1246 ⟨by decide, by decide, Nat.le_of_ble_eq_true rfl, Nat.le_of_ble_eq_true rfl⟩ hW va_S.rf hl.1 (Nat.le_of_ble_eq_true rfl) dL_dotsAt_4 (fun q hq ce q9 H locs hW hS hcell hv hcl => ?_) (fun v hv => nomatch hv)
  cases hq
  obtain ⟨x1, ht, g1⟩ := tab1 htab
  obtain ⟨e01, e02, e03, e04⟩ := exT_i g1
  refine vx_catch (name := exN 1) F.2.2.2.1 [] x1 [] ht (fun z hz => nomatch hz) (by simp [covers, e01, e02]) (by rw [e04]; decide) (by rw [e04]; exact F.2.2.2.2.1 _ q_1059) (va_Nw.use rfl (F.2.2.2.2.2.2.1.2.1 (exN 1, exN 1) (by decide +kernel))) hcell hv hcl ?_
  rw [e03]
  refine lv_astore_n (i := 3) (lv' := [(3, .ref q9), (0, .ref (b + 0)), (1, .int a1), (2, .ref (b + 331))]) hx hb dL_dotsAt_12 rfl hl (by decide) rfl (fun ls hl => ?_)
  refine lv_iconst (v := (1 : Int32)) hx hb dL_dotsAt_13 (by decide) ?_
  exact h_ret (n := G.2.2.2 14) F hr (fun x hx => nomatch hx) (by rw [gs_id]; exact hW) hS dL_dotsAt_14)
set_option maxHeartbeats 4000000 in
set_option maxRecDepth 100000 in
theorem c_L_findPage_ok {l : Launch} (hlT : l.stackTraces = false) {G : Gt} (h13 : G.2.2.2 13 = 1) {b : Nat} {n : Nat} {a1 : Int32} {a2 : Int32} {μ : Mm} {v : Int32} (h : sh_X11_findPage n a1 a2 μ = some (.inr v)) : vx_Met l yL_findPage (wU (Cond.codeWith yL_findPage cL_findPage 5 (some .int) [(0, 10, 13, 19)])) ({ frames := 7, cells := 1, slots := 6, locals := 113 } : Room) (PcW (fg G) b μ [.ref (b + 0), .int a1, .int a2, .ref (b + 331)]) (QL G b 0 (some v.toInt64) μ) (fun _ _ _ => False) 1 6 (fb b) :=
  hmet_of [.ref (b + 0), .int a1, .int a2, .ref (b + 331)] (by decide) (Nat.le_of_ble_eq_true rfl) (by
  intro p e s m args below meth c ls F hr htab hW hl
  have hx := F.1
  have hb := F.2.1
  replace hl : lv_has ls 5 [(0, .ref (b + 0)), (1, .int a1), (2, .int a2), (3, .ref (b + 331))] := hl
  refine lv_aload_n hx hb dL_findPage_0 rfl (lv_at hl 3 rfl) ?_
  refine lv_iconst (v := (0 : Int32)) hx hb dL_findPage_1 (by decide) ?_
  refine lv_aload_n hx hb dL_findPage_2 rfl (lv_at hl 0 rfl) ?_
  refine lv_iload_n hx hb dL_findPage_3 rfl (lv_at hl 1 rfl) ?_
  refine lv_iload_n hx hb dL_findPage_4 rfl (lv_at hl 2 rfl) ?_
  refine k_X11_findPage F hlT h q_1164 ⟨by decide, by decide, Nat.le_of_ble_eq_true rfl, Nat.le_of_ble_eq_true rfl⟩ hW va_S.rf hl.1 (Nat.le_of_ble_eq_true rfl) dL_findPage_5 (fun q hq => nomatch hq) (fun v hv H locs hW hS => ?_)
  cases hv
  refine lv_i2l hx hb dL_findPage_8 rfl ?_
  refine n_out h13 F hW hS (i64_nat _) dL_findPage_9 (fun H locs hW hS => ?_)
  refine lv_goto (tgt := 17) hx hb dL_findPage_10 (by decide) ?_
  refine lv_iconst (v := (0 : Int32)) hx hb dL_findPage_17 (by decide) ?_
  exact h_ret F hr (fun x hx => (i64_nat _).trans (Option.some.inj hx)) hW hS dL_findPage_18)
set_option maxHeartbeats 4000000 in
set_option maxRecDepth 100000 in
theorem c_L_findPage_x1 {l : Launch} (hlT : l.stackTraces = false) {G : Gt} (h13 : G.2.2.2 13 = 1) {b : Nat} {n : Nat} {a1 : Int32} {a2 : Int32} {μ : Mm} (h : sh_X11_findPage n a1 a2 μ = some (.inl 1)) : vx_Met l yL_findPage (wU (Cond.codeWith yL_findPage cL_findPage 5 (some .int) [(0, 10, 13, 19)])) ({ frames := 7, cells := 1, slots := 6, locals := 113 } : Room) (PcW (fg G) b μ [.ref (b + 0), .int a1, .int a2, .ref (b + 331)]) (QL G b 1 none μ) (fun _ _ _ => False) 1 6 (fb b) :=
  hmet_of [.ref (b + 0), .int a1, .int a2, .ref (b + 331)] (by decide) (Nat.le_of_ble_eq_true rfl) (by
  intro p e s m args below meth c ls F hr htab hW hl
  have hx := F.1
  have hb := F.2.1
  replace hl : lv_has ls 5 [(0, .ref (b + 0)), (1, .int a1), (2, .int a2), (3, .ref (b + 331))] := hl
  refine lv_aload_n hx hb dL_findPage_0 rfl (lv_at hl 3 rfl) ?_
  refine lv_iconst (v := (0 : Int32)) hx hb dL_findPage_1 (by decide) ?_
  refine lv_aload_n hx hb dL_findPage_2 rfl (lv_at hl 0 rfl) ?_
  refine lv_iload_n hx hb dL_findPage_3 rfl (lv_at hl 1 rfl) ?_
  refine lv_iload_n hx hb dL_findPage_4 rfl (lv_at hl 2 rfl) ?_
  refine k_X11_findPage F hlT h q_1164 ⟨by decide, by decide, Nat.le_of_ble_eq_true rfl, Nat.le_of_ble_eq_true rfl⟩ hW va_S.rf hl.1 (Nat.le_of_ble_eq_true rfl) dL_findPage_5 (fun q hq ce q9 H locs hW hS hcell hv hcl => ?_) (fun v hv => nomatch hv)
  cases hq
  obtain ⟨x1, ht, g1⟩ := tab1 htab
  obtain ⟨e01, e02, e03, e04⟩ := exT_i g1
  refine vx_catch (name := exN 1) F.2.2.2.1 [] x1 [] ht (fun z hz => nomatch hz) (by simp [covers, e01, e02]) (by rw [e04]; decide) (by rw [e04]; exact F.2.2.2.2.1 _ q_1059) (va_Nw.use rfl (F.2.2.2.2.2.2.1.2.1 (exN 1, exN 1) (by decide +kernel))) hcell hv hcl ?_
  rw [e03]
  refine lv_astore (lv' := [(4, .ref q9), (0, .ref (b + 0)), (1, .int a1), (2, .int a2), (3, .ref (b + 331))]) hx hb dL_findPage_13 hl (by decide) rfl (fun ls hl => ?_)
  refine lv_iconst (v := (1 : Int32)) hx hb dL_findPage_15 (by decide) ?_
  exact h_ret (n := G.2.2.2 14) F hr (fun x hx => nomatch hx) (by rw [gs_id]; exact hW) hS dL_findPage_16)
set_option maxHeartbeats 4000000 in
set_option maxRecDepth 100000 in
theorem c_L_firstDot_ok {l : Launch} (hlT : l.stackTraces = false) {G : Gt} (h13 : G.2.2.2 13 = 1) {b : Nat} {a1 : Int32} {μ : Mm} {v : Int32} (h : sh_X11_firstDot a1 μ = some (.inr v)) : vx_Met l yL_firstDot (wU (Cond.codeWith yL_firstDot cL_firstDot 4 (some .int) [(0, 9, 12, 32), (0, 9, 15, 67)])) ({ frames := 8, cells := 2, slots := 12, locals := 132 } : Room) (PcW (fg G) b μ [.ref (b + 0), .int a1, .ref (b + 331)]) (QL G b 0 (some v.toInt64) μ) (fun _ _ _ => False) 2 12 (fb b) :=
  hmet_of [.ref (b + 0), .int a1, .ref (b + 331)] (by decide) (Nat.le_of_ble_eq_true rfl) (by
  intro p e s m args below meth c ls F hr htab hW hl
  have hx := F.1
  have hb := F.2.1
  replace hl : lv_has ls 4 [(0, .ref (b + 0)), (1, .int a1), (2, .ref (b + 331))] := hl
  refine lv_aload_n hx hb dL_firstDot_0 rfl (lv_at hl 2 rfl) ?_
  refine lv_iconst (v := (0 : Int32)) hx hb dL_firstDot_1 (by decide) ?_
  refine lv_aload_n hx hb dL_firstDot_2 rfl (lv_at hl 0 rfl) ?_
  refine lv_iload_n hx hb dL_firstDot_3 rfl (lv_at hl 1 rfl) ?_
  refine k_X11_firstDot F hlT h q_1239 ⟨by decide, by decide, Nat.le_of_ble_eq_true rfl, Nat.le_of_ble_eq_true rfl⟩ hW va_S.rf hl.1 (Nat.le_of_ble_eq_true rfl) dL_firstDot_4 (fun q hq => nomatch hq) (fun v hv H locs hW hS => ?_)
  cases hv
  refine lv_i2l hx hb dL_firstDot_7 rfl ?_
  refine n_out h13 F hW hS (i64_nat _) dL_firstDot_8 (fun H locs hW hS => ?_)
  refine lv_goto (tgt := 18) hx hb dL_firstDot_9 (by decide) ?_
  refine lv_iconst (v := (0 : Int32)) hx hb dL_firstDot_18 (by decide) ?_
  exact h_ret F hr (fun x hx => (i64_nat _).trans (Option.some.inj hx)) hW hS dL_firstDot_19)
set_option maxHeartbeats 4000000 in
set_option maxRecDepth 100000 in
theorem c_L_firstDot_x2 {l : Launch} (hlT : l.stackTraces = false) {G : Gt} (h13 : G.2.2.2 13 = 1) {b : Nat} {a1 : Int32} {μ : Mm} (h : sh_X11_firstDot a1 μ = some (.inl 2)) : vx_Met l yL_firstDot (wU (Cond.codeWith yL_firstDot cL_firstDot 4 (some .int) [(0, 9, 12, 32), (0, 9, 15, 67)])) ({ frames := 8, cells := 2, slots := 12, locals := 132 } : Room) (PcW (fg G) b μ [.ref (b + 0), .int a1, .ref (b + 331)]) (QL G b 1 none μ) (fun _ _ _ => False) 2 12 (fb b) :=
  hmet_of [.ref (b + 0), .int a1, .ref (b + 331)] (by decide) (Nat.le_of_ble_eq_true rfl) (by
  intro p e s m args below meth c ls F hr htab hW hl
  have hx := F.1
  have hb := F.2.1
  replace hl : lv_has ls 4 [(0, .ref (b + 0)), (1, .int a1), (2, .ref (b + 331))] := hl
  refine lv_aload_n hx hb dL_firstDot_0 rfl (lv_at hl 2 rfl) ?_
  refine lv_iconst (v := (0 : Int32)) hx hb dL_firstDot_1 (by decide) ?_
  refine lv_aload_n hx hb dL_firstDot_2 rfl (lv_at hl 0 rfl) ?_
  refine lv_iload_n hx hb dL_firstDot_3 rfl (lv_at hl 1 rfl) ?_
  refine k_X11_firstDot F hlT h q_1239 ⟨by decide, by decide, Nat.le_of_ble_eq_true rfl, Nat.le_of_ble_eq_true rfl⟩ hW va_S.rf hl.1 (Nat.le_of_ble_eq_true rfl) dL_firstDot_4 (fun q hq ce q9 H locs hW hS hcell hv hcl => ?_) (fun v hv => nomatch hv)
  cases hq
  obtain ⟨x1, x2, ht, g1, g2⟩ := tab2 htab
  obtain ⟨e01, e02, e03, e04⟩ := exT_i g1
  obtain ⟨e11, e12, e13, e14⟩ := exT_i g2
  refine vx_catch (name := exN 2) F.2.2.2.1 [] x1 [x2] ht (fun z hz => nomatch hz) (by simp [covers, e01, e02]) (by rw [e04]; decide) (by rw [e04]; exact F.2.2.2.2.1 _ q_1099) (va_Nw.use rfl (F.2.2.2.2.2.2.1.2.1 (exN 2, exN 2) (by decide +kernel))) hcell hv hcl ?_
  rw [e03]
  refine lv_astore_n (i := 3) (lv' := [(3, .ref q9), (0, .ref (b + 0)), (1, .int a1), (2, .ref (b + 331))]) hx hb dL_firstDot_12 rfl hl (by decide) rfl (fun ls hl => ?_)
  refine lv_iconst (v := (1 : Int32)) hx hb dL_firstDot_13 (by decide) ?_
  exact h_ret (n := G.2.2.2 14) F hr (fun x hx => nomatch hx) (by rw [gs_id]; exact hW) hS dL_firstDot_14)
set_option maxHeartbeats 4000000 in
set_option maxRecDepth 100000 in
theorem c_L_firstDot_x3 {l : Launch} (hlT : l.stackTraces = false) {G : Gt} (h13 : G.2.2.2 13 = 1) {b : Nat} {a1 : Int32} {μ : Mm} (h : sh_X11_firstDot a1 μ = some (.inl 3)) : vx_Met l yL_firstDot (wU (Cond.codeWith yL_firstDot cL_firstDot 4 (some .int) [(0, 9, 12, 32), (0, 9, 15, 67)])) ({ frames := 8, cells := 2, slots := 12, locals := 132 } : Room) (PcW (fg G) b μ [.ref (b + 0), .int a1, .ref (b + 331)]) (QL G b 2 none μ) (fun _ _ _ => False) 2 12 (fb b) :=
  hmet_of [.ref (b + 0), .int a1, .ref (b + 331)] (by decide) (Nat.le_of_ble_eq_true rfl) (by
  intro p e s m args below meth c ls F hr htab hW hl
  have hx := F.1
  have hb := F.2.1
  replace hl : lv_has ls 4 [(0, .ref (b + 0)), (1, .int a1), (2, .ref (b + 331))] := hl
  refine lv_aload_n hx hb dL_firstDot_0 rfl (lv_at hl 2 rfl) ?_
  refine lv_iconst (v := (0 : Int32)) hx hb dL_firstDot_1 (by decide) ?_
  refine lv_aload_n hx hb dL_firstDot_2 rfl (lv_at hl 0 rfl) ?_
  refine lv_iload_n hx hb dL_firstDot_3 rfl (lv_at hl 1 rfl) ?_
  refine k_X11_firstDot F hlT h q_1239 ⟨by decide, by decide, Nat.le_of_ble_eq_true rfl, Nat.le_of_ble_eq_true rfl⟩ hW va_S.rf hl.1 (Nat.le_of_ble_eq_true rfl) dL_firstDot_4 (fun q hq ce q9 H locs hW hS hcell hv hcl => ?_) (fun v hv => nomatch hv)
  cases hq
  obtain ⟨x1, x2, ht, g1, g2⟩ := tab2 htab
  obtain ⟨e01, e02, e03, e04⟩ := exT_i g1
  obtain ⟨e11, e12, e13, e14⟩ := exT_i g2
  refine vx_catch (name := exN 3) F.2.2.2.1 [x1] x2 [] ht (fun z hz => by
    simp only [List.mem_cons, List.not_mem_nil, or_false] at hz
    subst hz
    · exact Or.inr ⟨by rw [e04]; decide, exN 2, by rw [e04]; exact F.2.2.2.2.1 _ q_1099, F.2.2.2.2.2.2.1.2.2.1 (exN 3, exN 2) (by decide +kernel)⟩) (by simp [covers, e11, e12]) (by rw [e14]; decide) (by rw [e14]; exact F.2.2.2.2.1 _ q_1210) (va_Nw.use rfl (F.2.2.2.2.2.2.1.2.1 (exN 3, exN 3) (by decide +kernel))) hcell hv hcl ?_
  rw [e13]
  refine lv_astore_n (i := 3) (lv' := [(3, .ref q9), (0, .ref (b + 0)), (1, .int a1), (2, .ref (b + 331))]) hx hb dL_firstDot_15 rfl hl (by decide) rfl (fun ls hl => ?_)
  refine lv_iconst (v := (2 : Int32)) hx hb dL_firstDot_16 (by decide) ?_
  exact h_ret (n := G.2.2.2 14) F hr (fun x hx => nomatch hx) (by rw [gs_id]; exact hW) hS dL_firstDot_17)
set_option maxHeartbeats 4000000 in
set_option maxRecDepth 100000 in
theorem c_L_firstLine_ok {l : Launch} (hlT : l.stackTraces = false) {G : Gt} (h13 : G.2.2.2 13 = 1) {b : Nat} {a1 : Int32} {μ : Mm} {v : Int32} (h : sh_X11_firstLine a1 μ = some (.inr v)) : vx_Met l yL_firstLine (wU (Cond.codeWith yL_firstLine cL_firstLine 4 (some .int) [(0, 9, 12, 32)])) ({ frames := 8, cells := 1, slots := 6, locals := 132 } : Room) (PcW (fg G) b μ [.ref (b + 0), .int a1, .ref (b + 331)]) (QL G b 0 (some v.toInt64) μ) (fun _ _ _ => False) 1 6 (fb b) :=
  hmet_of [.ref (b + 0), .int a1, .ref (b + 331)] (by decide) (Nat.le_of_ble_eq_true rfl) (by
  intro p e s m args below meth c ls F hr htab hW hl
  have hx := F.1
  have hb := F.2.1
  replace hl : lv_has ls 4 [(0, .ref (b + 0)), (1, .int a1), (2, .ref (b + 331))] := hl
  refine lv_aload_n hx hb dL_firstLine_0 rfl (lv_at hl 2 rfl) ?_
  refine lv_iconst (v := (0 : Int32)) hx hb dL_firstLine_1 (by decide) ?_
  refine lv_aload_n hx hb dL_firstLine_2 rfl (lv_at hl 0 rfl) ?_
  refine lv_iload_n hx hb dL_firstLine_3 rfl (lv_at hl 1 rfl) ?_
  refine k_X11_firstLine F hlT h q_1182 ⟨by decide, by decide, Nat.le_of_ble_eq_true rfl, Nat.le_of_ble_eq_true rfl⟩ hW va_S.rf hl.1 (Nat.le_of_ble_eq_true rfl) dL_firstLine_4 (fun q hq => nomatch hq) (fun v hv H locs hW hS => ?_)
  cases hv
  refine lv_i2l hx hb dL_firstLine_7 rfl ?_
  refine n_out h13 F hW hS (i64_nat _) dL_firstLine_8 (fun H locs hW hS => ?_)
  refine lv_goto (tgt := 15) hx hb dL_firstLine_9 (by decide) ?_
  refine lv_iconst (v := (0 : Int32)) hx hb dL_firstLine_15 (by decide) ?_
  exact h_ret F hr (fun x hx => (i64_nat _).trans (Option.some.inj hx)) hW hS dL_firstLine_16)
set_option maxHeartbeats 4000000 in
set_option maxRecDepth 100000 in
theorem c_L_firstLine_x2 {l : Launch} (hlT : l.stackTraces = false) {G : Gt} (h13 : G.2.2.2 13 = 1) {b : Nat} {a1 : Int32} {μ : Mm} (h : sh_X11_firstLine a1 μ = some (.inl 2)) : vx_Met l yL_firstLine (wU (Cond.codeWith yL_firstLine cL_firstLine 4 (some .int) [(0, 9, 12, 32)])) ({ frames := 8, cells := 1, slots := 6, locals := 132 } : Room) (PcW (fg G) b μ [.ref (b + 0), .int a1, .ref (b + 331)]) (QL G b 1 none μ) (fun _ _ _ => False) 1 6 (fb b) :=
  hmet_of [.ref (b + 0), .int a1, .ref (b + 331)] (by decide) (Nat.le_of_ble_eq_true rfl) (by
  intro p e s m args below meth c ls F hr htab hW hl
  have hx := F.1
  have hb := F.2.1
  replace hl : lv_has ls 4 [(0, .ref (b + 0)), (1, .int a1), (2, .ref (b + 331))] := hl
  refine lv_aload_n hx hb dL_firstLine_0 rfl (lv_at hl 2 rfl) ?_
  refine lv_iconst (v := (0 : Int32)) hx hb dL_firstLine_1 (by decide) ?_
  refine lv_aload_n hx hb dL_firstLine_2 rfl (lv_at hl 0 rfl) ?_
  refine lv_iload_n hx hb dL_firstLine_3 rfl (lv_at hl 1 rfl) ?_
  refine k_X11_firstLine F hlT h q_1182 ⟨by decide, by decide, Nat.le_of_ble_eq_true rfl, Nat.le_of_ble_eq_true rfl⟩ hW va_S.rf hl.1 (Nat.le_of_ble_eq_true rfl) dL_firstLine_4 (fun q hq ce q9 H locs hW hS hcell hv hcl => ?_) (fun v hv => nomatch hv)
  cases hq
  obtain ⟨x1, ht, g1⟩ := tab1 htab
  obtain ⟨e01, e02, e03, e04⟩ := exT_i g1
  refine vx_catch (name := exN 2) F.2.2.2.1 [] x1 [] ht (fun z hz => nomatch hz) (by simp [covers, e01, e02]) (by rw [e04]; decide) (by rw [e04]; exact F.2.2.2.2.1 _ q_1099) (va_Nw.use rfl (F.2.2.2.2.2.2.1.2.1 (exN 2, exN 2) (by decide +kernel))) hcell hv hcl ?_
  rw [e03]
  refine lv_astore_n (i := 3) (lv' := [(3, .ref q9), (0, .ref (b + 0)), (1, .int a1), (2, .ref (b + 331))]) hx hb dL_firstLine_12 rfl hl (by decide) rfl (fun ls hl => ?_)
  refine lv_iconst (v := (1 : Int32)) hx hb dL_firstLine_13 (by decide) ?_
  exact h_ret (n := G.2.2.2 14) F hr (fun x hx => nomatch hx) (by rw [gs_id]; exact hW) hS dL_firstLine_14)
set_option maxHeartbeats 4000000 in
set_option maxRecDepth 100000 in
theorem c_L_insert_ok {l : Launch} (hlT : l.stackTraces = false) {G : Gt} (h13 : G.2.2.2 13 = 1) {b : Nat} {n : Nat} {a1 : Int32} {a2 : Int32} {a3 : Int32} {μ : Mm} {μ' : Mm} {v : Int32} (h : sh_X11_insert n a1 a2 a3 μ = some (.inr (v, μ'))) : vx_Met l yL_insert (wU (Cond.codeWith yL_insert cL_insert 6 (some .int) [(0, 12, 15, 32), (0, 12, 19, 19), (0, 12, 23, 13)])) ({ frames := 8, cells := 4, slots := 24, locals := 167 } : Room) (PcW (fg G) b μ [.ref (b + 0), .int a1, .int a2, .int a3, .ref (b + 331)]) (QL G b 0 (some v.toInt64) μ') (fun _ _ _ => False) 4 24 (fb b) :=
  hmet_of [.ref (b + 0), .int a1, .int a2, .int a3, .ref (b + 331)] (by decide) (Nat.le_of_ble_eq_true rfl) (by
  intro p e s m args below meth c ls F hr htab hW hl
  have hx := F.1
  have hb := F.2.1
  replace hl : lv_has ls 6 [(0, .ref (b + 0)), (1, .int a1), (2, .int a2), (3, .int a3), (4, .ref (b + 331))] := hl
  refine lv_aload hx hb dL_insert_0 (lv_at hl 4 rfl) ?_
  refine lv_iconst (v := (0 : Int32)) hx hb dL_insert_2 (by decide) ?_
  refine lv_aload_n hx hb dL_insert_3 rfl (lv_at hl 0 rfl) ?_
  refine lv_iload_n hx hb dL_insert_4 rfl (lv_at hl 1 rfl) ?_
  refine lv_iload_n hx hb dL_insert_5 rfl (lv_at hl 2 rfl) ?_
  refine lv_iload_n hx hb dL_insert_6 rfl (lv_at hl 3 rfl) ?_
  refine k_X11_insert F hlT h q_1329 ⟨by decide, by decide, Nat.le_of_ble_eq_true rfl, Nat.le_of_ble_eq_true rfl⟩ hW va_S.rf hl.1 (Nat.le_of_ble_eq_true rfl) dL_insert_7 (fun q hq => nomatch hq) (fun v hv H locs hW hS => ?_)
  cases hv
  refine lv_i2l hx hb dL_insert_10 rfl ?_
  refine n_out h13 F hW hS (i64_nat _) dL_insert_11 (fun H locs hW hS => ?_)
  refine lv_goto (tgt := 27) hx hb dL_insert_12 (by decide) ?_
  refine lv_iconst (v := (0 : Int32)) hx hb dL_insert_27 (by decide) ?_
  exact h_ret F hr (fun x hx => (i64_nat _).trans (Option.some.inj hx)) hW hS dL_insert_28)
set_option maxHeartbeats 4000000 in
set_option maxRecDepth 100000 in
theorem c_L_insert_x2 {l : Launch} (hlT : l.stackTraces = false) {G : Gt} (h13 : G.2.2.2 13 = 1) {b : Nat} {n : Nat} {a1 : Int32} {a2 : Int32} {a3 : Int32} {μ : Mm} {μ' : Mm} (h : sh_X11_insert n a1 a2 a3 μ = some (.inl (2, μ'))) : vx_Met l yL_insert (wU (Cond.codeWith yL_insert cL_insert 6 (some .int) [(0, 12, 15, 32), (0, 12, 19, 19), (0, 12, 23, 13)])) ({ frames := 8, cells := 4, slots := 24, locals := 167 } : Room) (PcW (fg G) b μ [.ref (b + 0), .int a1, .int a2, .int a3, .ref (b + 331)]) (QL G b 1 none μ') (fun _ _ _ => False) 4 24 (fb b) :=
  hmet_of [.ref (b + 0), .int a1, .int a2, .int a3, .ref (b + 331)] (by decide) (Nat.le_of_ble_eq_true rfl) (by
  intro p e s m args below meth c ls F hr htab hW hl
  have hx := F.1
  have hb := F.2.1
  replace hl : lv_has ls 6 [(0, .ref (b + 0)), (1, .int a1), (2, .int a2), (3, .int a3), (4, .ref (b + 331))] := hl
  refine lv_aload hx hb dL_insert_0 (lv_at hl 4 rfl) ?_
  refine lv_iconst (v := (0 : Int32)) hx hb dL_insert_2 (by decide) ?_
  refine lv_aload_n hx hb dL_insert_3 rfl (lv_at hl 0 rfl) ?_
  refine lv_iload_n hx hb dL_insert_4 rfl (lv_at hl 1 rfl) ?_
  refine lv_iload_n hx hb dL_insert_5 rfl (lv_at hl 2 rfl) ?_
  refine lv_iload_n hx hb dL_insert_6 rfl (lv_at hl 3 rfl) ?_
  refine k_X11_insert F hlT h q_1329 ⟨by decide, by decide, Nat.le_of_ble_eq_true rfl, Nat.le_of_ble_eq_true rfl⟩ hW va_S.rf hl.1 (Nat.le_of_ble_eq_true rfl) dL_insert_7 (fun q hq ce q9 H locs hW hS hcell hv hcl => ?_) (fun v hv => nomatch hv)
  cases hq
  obtain ⟨x1, x2, x3, ht, g1, g2, g3⟩ := tab3 htab
  obtain ⟨e01, e02, e03, e04⟩ := exT_i g1
  obtain ⟨e11, e12, e13, e14⟩ := exT_i g2
  obtain ⟨e21, e22, e23, e24⟩ := exT_i g3
  refine vx_catch (name := exN 2) F.2.2.2.1 [] x1 [x2, x3] ht (fun z hz => nomatch hz) (by simp [covers, e01, e02]) (by rw [e04]; decide) (by rw [e04]; exact F.2.2.2.2.1 _ q_1099) (va_Nw.use rfl (F.2.2.2.2.2.2.1.2.1 (exN 2, exN 2) (by decide +kernel))) hcell hv hcl ?_
  rw [e03]
  refine lv_astore (lv' := [(5, .ref q9), (0, .ref (b + 0)), (1, .int a1), (2, .int a2), (3, .int a3), (4, .ref (b + 331))]) hx hb dL_insert_15 hl (by decide) rfl (fun ls hl => ?_)
  refine lv_iconst (v := (1 : Int32)) hx hb dL_insert_17 (by decide) ?_
  exact h_ret (n := G.2.2.2 14) F hr (fun x hx => nomatch hx) (by rw [gs_id]; exact hW) hS dL_insert_18)
set_option maxHeartbeats 4000000 in
set_option maxRecDepth 100000 in
theorem c_L_insert_x1 {l : Launch} (hlT : l.stackTraces = false) {G : Gt} (h13 : G.2.2.2 13 = 1) {b : Nat} {n : Nat} {a1 : Int32} {a2 : Int32} {a3 : Int32} {μ : Mm} {μ' : Mm} (h : sh_X11_insert n a1 a2 a3 μ = some (.inl (1, μ'))) : vx_Met l yL_insert (wU (Cond.codeWith yL_insert cL_insert 6 (some .int) [(0, 12, 15, 32), (0, 12, 19, 19), (0, 12, 23, 13)])) ({ frames := 8, cells := 4, slots := 24, locals := 167 } : Room) (PcW (fg G) b μ [.ref (b + 0), .int a1, .int a2, .int a3, .ref (b + 331)]) (QL G b 2 none μ') (fun _ _ _ => False) 4 24 (fb b) :=
  hmet_of [.ref (b + 0), .int a1, .int a2, .int a3, .ref (b + 331)] (by decide) (Nat.le_of_ble_eq_true rfl) (by
  intro p e s m args below meth c ls F hr htab hW hl
  have hx := F.1
  have hb := F.2.1
  replace hl : lv_has ls 6 [(0, .ref (b + 0)), (1, .int a1), (2, .int a2), (3, .int a3), (4, .ref (b + 331))] := hl
  refine lv_aload hx hb dL_insert_0 (lv_at hl 4 rfl) ?_
  refine lv_iconst (v := (0 : Int32)) hx hb dL_insert_2 (by decide) ?_
  refine lv_aload_n hx hb dL_insert_3 rfl (lv_at hl 0 rfl) ?_
  refine lv_iload_n hx hb dL_insert_4 rfl (lv_at hl 1 rfl) ?_
  refine lv_iload_n hx hb dL_insert_5 rfl (lv_at hl 2 rfl) ?_
  refine lv_iload_n hx hb dL_insert_6 rfl (lv_at hl 3 rfl) ?_
  refine k_X11_insert F hlT h q_1329 ⟨by decide, by decide, Nat.le_of_ble_eq_true rfl, Nat.le_of_ble_eq_true rfl⟩ hW va_S.rf hl.1 (Nat.le_of_ble_eq_true rfl) dL_insert_7 (fun q hq ce q9 H locs hW hS hcell hv hcl => ?_) (fun v hv => nomatch hv)
  cases hq
  obtain ⟨x1, x2, x3, ht, g1, g2, g3⟩ := tab3 htab
  obtain ⟨e01, e02, e03, e04⟩ := exT_i g1
  obtain ⟨e11, e12, e13, e14⟩ := exT_i g2
  obtain ⟨e21, e22, e23, e24⟩ := exT_i g3
  refine vx_catch (name := exN 1) F.2.2.2.1 [x1] x2 [x3] ht (fun z hz => by
    simp only [List.mem_cons, List.not_mem_nil, or_false] at hz
    subst hz
    · exact Or.inr ⟨by rw [e04]; decide, exN 2, by rw [e04]; exact F.2.2.2.2.1 _ q_1099, F.2.2.2.2.2.2.1.2.2.1 (exN 1, exN 2) (by decide +kernel)⟩) (by simp [covers, e11, e12]) (by rw [e14]; decide) (by rw [e14]; exact F.2.2.2.2.1 _ q_1059) (va_Nw.use rfl (F.2.2.2.2.2.2.1.2.1 (exN 1, exN 1) (by decide +kernel))) hcell hv hcl ?_
  rw [e13]
  refine lv_astore (lv' := [(5, .ref q9), (0, .ref (b + 0)), (1, .int a1), (2, .int a2), (3, .int a3), (4, .ref (b + 331))]) hx hb dL_insert_19 hl (by decide) rfl (fun ls hl => ?_)
  refine lv_iconst (v := (2 : Int32)) hx hb dL_insert_21 (by decide) ?_
  exact h_ret (n := G.2.2.2 14) F hr (fun x hx => nomatch hx) (by rw [gs_id]; exact hW) hS dL_insert_22)
set_option maxHeartbeats 4000000 in
set_option maxRecDepth 100000 in
theorem c_L_insert_x0 {l : Launch} (hlT : l.stackTraces = false) {G : Gt} (h13 : G.2.2.2 13 = 1) {b : Nat} {n : Nat} {a1 : Int32} {a2 : Int32} {a3 : Int32} {μ : Mm} {μ' : Mm} (h : sh_X11_insert n a1 a2 a3 μ = some (.inl (0, μ'))) : vx_Met l yL_insert (wU (Cond.codeWith yL_insert cL_insert 6 (some .int) [(0, 12, 15, 32), (0, 12, 19, 19), (0, 12, 23, 13)])) ({ frames := 8, cells := 4, slots := 24, locals := 167 } : Room) (PcW (fg G) b μ [.ref (b + 0), .int a1, .int a2, .int a3, .ref (b + 331)]) (QL G b 3 none μ') (fun _ _ _ => False) 4 24 (fb b) :=
  hmet_of [.ref (b + 0), .int a1, .int a2, .int a3, .ref (b + 331)] (by decide) (Nat.le_of_ble_eq_true rfl) (by
  intro p e s m args below meth c ls F hr htab hW hl
  have hx := F.1
  have hb := F.2.1
  replace hl : lv_has ls 6 [(0, .ref (b + 0)), (1, .int a1), (2, .int a2), (3, .int a3), (4, .ref (b + 331))] := hl
  refine lv_aload hx hb dL_insert_0 (lv_at hl 4 rfl) ?_
  refine lv_iconst (v := (0 : Int32)) hx hb dL_insert_2 (by decide) ?_
  refine lv_aload_n hx hb dL_insert_3 rfl (lv_at hl 0 rfl) ?_
  refine lv_iload_n hx hb dL_insert_4 rfl (lv_at hl 1 rfl) ?_
  refine lv_iload_n hx hb dL_insert_5 rfl (lv_at hl 2 rfl) ?_
  refine lv_iload_n hx hb dL_insert_6 rfl (lv_at hl 3 rfl) ?_
  refine k_X11_insert F hlT h q_1329 ⟨by decide, by decide, Nat.le_of_ble_eq_true rfl, Nat.le_of_ble_eq_true rfl⟩ hW va_S.rf hl.1 (Nat.le_of_ble_eq_true rfl) dL_insert_7 (fun q hq ce q9 H locs hW hS hcell hv hcl => ?_) (fun v hv => nomatch hv)
  cases hq
  obtain ⟨x1, x2, x3, ht, g1, g2, g3⟩ := tab3 htab
  obtain ⟨e01, e02, e03, e04⟩ := exT_i g1
  obtain ⟨e11, e12, e13, e14⟩ := exT_i g2
  obtain ⟨e21, e22, e23, e24⟩ := exT_i g3
  refine vx_catch (name := exN 0) F.2.2.2.1 [x1, x2] x3 [] ht (fun z hz => by
    simp only [List.mem_cons, List.not_mem_nil, or_false] at hz
    rcases hz with rfl | rfl
    · exact Or.inr ⟨by rw [e04]; decide, exN 2, by rw [e04]; exact F.2.2.2.2.1 _ q_1099, F.2.2.2.2.2.2.1.2.2.1 (exN 0, exN 2) (by decide +kernel)⟩
    · exact Or.inr ⟨by rw [e14]; decide, exN 1, by rw [e14]; exact F.2.2.2.2.1 _ q_1059, F.2.2.2.2.2.2.1.2.2.1 (exN 0, exN 1) (by decide +kernel)⟩) (by simp [covers, e21, e22]) (by rw [e24]; decide) (by rw [e24]; exact F.2.2.2.2.1 _ q_979) (va_Nw.use rfl (F.2.2.2.2.2.2.1.2.1 (exN 0, exN 0) (by decide +kernel))) hcell hv hcl ?_
  rw [e23]
  refine lv_astore (lv' := [(5, .ref q9), (0, .ref (b + 0)), (1, .int a1), (2, .int a2), (3, .int a3), (4, .ref (b + 331))]) hx hb dL_insert_23 hl (by decide) rfl (fun ls hl => ?_)
  refine lv_iconst (v := (3 : Int32)) hx hb dL_insert_25 (by decide) ?_
  exact h_ret (n := G.2.2.2 14) F hr (fun x hx => nomatch hx) (by rw [gs_id]; exact hW) hS dL_insert_26)
set_option maxHeartbeats 4000000 in
set_option maxRecDepth 100000 in
theorem c_L_isOverfull_ok {l : Launch} (hlT : l.stackTraces = false) {G : Gt} (h13 : G.2.2.2 13 = 1) {b : Nat} {a1 : Int32} {μ : Mm} {v : Int32} (h : sh_X11_isOverfull a1 μ = some (.inr v)) : vx_Met l yL_isOverfull (wU (Cond.codeWith yL_isOverfull cL_isOverfull 4 (some .int) [(0, 16, 19, 32)])) ({ frames := 8, cells := 1, slots := 6, locals := 132 } : Room) (PcW (fg G) b μ [.ref (b + 0), .int a1, .ref (b + 331)]) (QL G b 0 (some (if v = 0 then 0 else 1)) μ) (fun _ _ _ => False) 1 6 (fb b) :=
  hmet_of [.ref (b + 0), .int a1, .ref (b + 331)] (by decide) (Nat.le_of_ble_eq_true rfl) (by
  intro p e s m args below meth c ls F hr htab hW hl
  have hx := F.1
  have hb := F.2.1
  replace hl : lv_has ls 4 [(0, .ref (b + 0)), (1, .int a1), (2, .ref (b + 331))] := hl
  refine lv_aload_n hx hb dL_isOverfull_0 rfl (lv_at hl 2 rfl) ?_
  refine lv_iconst (v := (0 : Int32)) hx hb dL_isOverfull_1 (by decide) ?_
  refine lv_aload_n hx hb dL_isOverfull_2 rfl (lv_at hl 0 rfl) ?_
  refine lv_iload_n hx hb dL_isOverfull_3 rfl (lv_at hl 1 rfl) ?_
  refine k_X11_isOverfull F hlT h q_1258 ⟨by decide, by decide, Nat.le_of_ble_eq_true rfl, Nat.le_of_ble_eq_true rfl⟩ hW va_S.rf hl.1 (Nat.le_of_ble_eq_true rfl) dL_isOverfull_4 (fun q hq => nomatch hq) (fun v hv H locs hW hS => ?_)
  cases hv
  refine lv_if_eq (tgt := 14) hx hb dL_isOverfull_7 (by decide) (fun cc => ?_) (fun cc => ?_)
  · refine lv_lconst (v := (0 : Int64)) hx hb dL_isOverfull_14 rfl ?_
    refine n_out (n := 0) h13 F hW hS (x := 0) rfl dL_isOverfull_15 (fun H locs hW hS => ?_)
    refine lv_goto (tgt := 22) hx hb dL_isOverfull_16 (by decide) ?_
    refine lv_iconst (v := (0 : Int32)) hx hb dL_isOverfull_22 (by decide) ?_
    exact h_ret F hr (fun x hx => by rw [if_pos cc] at hx; exact Option.some.inj hx) hW hS dL_isOverfull_23
  · refine lv_lconst (v := (1 : Int64)) hx hb dL_isOverfull_10 rfl ?_
    refine lv_goto (tgt := 15) hx hb dL_isOverfull_11 (by decide) ?_
    refine n_out (n := 1) h13 F hW hS (x := 1) rfl dL_isOverfull_15 (fun H locs hW hS => ?_)
    refine lv_goto (tgt := 22) hx hb dL_isOverfull_16 (by decide) ?_
    refine lv_iconst (v := (0 : Int32)) hx hb dL_isOverfull_22 (by decide) ?_
    exact h_ret F hr (fun x hx => by rw [if_neg cc] at hx; exact Option.some.inj hx) hW hS dL_isOverfull_23)
set_option maxHeartbeats 4000000 in
set_option maxRecDepth 100000 in
theorem c_L_isOverfull_x2 {l : Launch} (hlT : l.stackTraces = false) {G : Gt} (h13 : G.2.2.2 13 = 1) {b : Nat} {a1 : Int32} {μ : Mm} (h : sh_X11_isOverfull a1 μ = some (.inl 2)) : vx_Met l yL_isOverfull (wU (Cond.codeWith yL_isOverfull cL_isOverfull 4 (some .int) [(0, 16, 19, 32)])) ({ frames := 8, cells := 1, slots := 6, locals := 132 } : Room) (PcW (fg G) b μ [.ref (b + 0), .int a1, .ref (b + 331)]) (QL G b 1 none μ) (fun _ _ _ => False) 1 6 (fb b) :=
  hmet_of [.ref (b + 0), .int a1, .ref (b + 331)] (by decide) (Nat.le_of_ble_eq_true rfl) (by
  intro p e s m args below meth c ls F hr htab hW hl
  have hx := F.1
  have hb := F.2.1
  replace hl : lv_has ls 4 [(0, .ref (b + 0)), (1, .int a1), (2, .ref (b + 331))] := hl
  refine lv_aload_n hx hb dL_isOverfull_0 rfl (lv_at hl 2 rfl) ?_
  refine lv_iconst (v := (0 : Int32)) hx hb dL_isOverfull_1 (by decide) ?_
  refine lv_aload_n hx hb dL_isOverfull_2 rfl (lv_at hl 0 rfl) ?_
  refine lv_iload_n hx hb dL_isOverfull_3 rfl (lv_at hl 1 rfl) ?_
  refine k_X11_isOverfull F hlT h q_1258 ⟨by decide, by decide, Nat.le_of_ble_eq_true rfl, Nat.le_of_ble_eq_true rfl⟩ hW va_S.rf hl.1 (Nat.le_of_ble_eq_true rfl) dL_isOverfull_4 (fun q hq ce q9 H locs hW hS hcell hv hcl => ?_) (fun v hv => nomatch hv)
  cases hq
  obtain ⟨x1, ht, g1⟩ := tab1 htab
  obtain ⟨e01, e02, e03, e04⟩ := exT_i g1
  refine vx_catch (name := exN 2) F.2.2.2.1 [] x1 [] ht (fun z hz => nomatch hz) (by simp [covers, e01, e02]) (by rw [e04]; decide) (by rw [e04]; exact F.2.2.2.2.1 _ q_1099) (va_Nw.use rfl (F.2.2.2.2.2.2.1.2.1 (exN 2, exN 2) (by decide +kernel))) hcell hv hcl ?_
  rw [e03]
  refine lv_astore_n (i := 3) (lv' := [(3, .ref q9), (0, .ref (b + 0)), (1, .int a1), (2, .ref (b + 331))]) hx hb dL_isOverfull_19 rfl hl (by decide) rfl (fun ls hl => ?_)
  refine lv_iconst (v := (1 : Int32)) hx hb dL_isOverfull_20 (by decide) ?_
  exact h_ret (n := G.2.2.2 14) F hr (fun x hx => nomatch hx) (by rw [gs_id]; exact hW) hS dL_isOverfull_21)
set_option maxHeartbeats 4000000 in
set_option maxRecDepth 100000 in
theorem c_L_leastWidth_ok {l : Launch} (hlT : l.stackTraces = false) {G : Gt} (h13 : G.2.2.2 13 = 1) {b : Nat} {n : Nat} {a1 : Int32} {μ : Mm} {μ' : Mm} {v : Int32} (h : sh_X11_leastWidth n a1 μ = some (.inr (v, μ'))) : vx_Met l yL_leastWidth (wU (Cond.codeWith yL_leastWidth cL_leastWidth 4 (some .int) [(0, 9, 12, 19)])) ({ frames := 7, cells := 1, slots := 6, locals := 144 } : Room) (PcW (fg G) b μ [.ref (b + 0), .int a1, .ref (b + 331)]) (QL G b 0 (some v.toInt64) μ') (fun _ _ _ => False) 1 6 (fb b) :=
  hmet_of [.ref (b + 0), .int a1, .ref (b + 331)] (by decide) (Nat.le_of_ble_eq_true rfl) (by
  intro p e s m args below meth c ls F hr htab hW hl
  have hx := F.1
  have hb := F.2.1
  replace hl : lv_has ls 4 [(0, .ref (b + 0)), (1, .int a1), (2, .ref (b + 331))] := hl
  refine lv_aload_n hx hb dL_leastWidth_0 rfl (lv_at hl 2 rfl) ?_
  refine lv_iconst (v := (0 : Int32)) hx hb dL_leastWidth_1 (by decide) ?_
  refine lv_aload_n hx hb dL_leastWidth_2 rfl (lv_at hl 0 rfl) ?_
  refine lv_iload_n hx hb dL_leastWidth_3 rfl (lv_at hl 1 rfl) ?_
  refine k_X11_leastWidth F hlT h q_1393 ⟨by decide, by decide, Nat.le_of_ble_eq_true rfl, Nat.le_of_ble_eq_true rfl⟩ hW va_S.rf hl.1 (Nat.le_of_ble_eq_true rfl) dL_leastWidth_4 (fun q hq => nomatch hq) (fun v hv H locs hW hS => ?_)
  cases hv
  refine lv_i2l hx hb dL_leastWidth_7 rfl ?_
  refine n_out h13 F hW hS (i64_nat _) dL_leastWidth_8 (fun H locs hW hS => ?_)
  refine lv_goto (tgt := 15) hx hb dL_leastWidth_9 (by decide) ?_
  refine lv_iconst (v := (0 : Int32)) hx hb dL_leastWidth_15 (by decide) ?_
  exact h_ret F hr (fun x hx => (i64_nat _).trans (Option.some.inj hx)) hW hS dL_leastWidth_16)
set_option maxHeartbeats 4000000 in
set_option maxRecDepth 100000 in
theorem c_L_leastWidth_x1 {l : Launch} (hlT : l.stackTraces = false) {G : Gt} (h13 : G.2.2.2 13 = 1) {b : Nat} {n : Nat} {a1 : Int32} {μ : Mm} {μ' : Mm} (h : sh_X11_leastWidth n a1 μ = some (.inl (1, μ'))) : vx_Met l yL_leastWidth (wU (Cond.codeWith yL_leastWidth cL_leastWidth 4 (some .int) [(0, 9, 12, 19)])) ({ frames := 7, cells := 1, slots := 6, locals := 144 } : Room) (PcW (fg G) b μ [.ref (b + 0), .int a1, .ref (b + 331)]) (QL G b 1 none μ') (fun _ _ _ => False) 1 6 (fb b) :=
  hmet_of [.ref (b + 0), .int a1, .ref (b + 331)] (by decide) (Nat.le_of_ble_eq_true rfl) (by
  intro p e s m args below meth c ls F hr htab hW hl
  have hx := F.1
  have hb := F.2.1
  replace hl : lv_has ls 4 [(0, .ref (b + 0)), (1, .int a1), (2, .ref (b + 331))] := hl
  refine lv_aload_n hx hb dL_leastWidth_0 rfl (lv_at hl 2 rfl) ?_
  refine lv_iconst (v := (0 : Int32)) hx hb dL_leastWidth_1 (by decide) ?_
  refine lv_aload_n hx hb dL_leastWidth_2 rfl (lv_at hl 0 rfl) ?_
  refine lv_iload_n hx hb dL_leastWidth_3 rfl (lv_at hl 1 rfl) ?_
  refine k_X11_leastWidth F hlT h q_1393 ⟨by decide, by decide, Nat.le_of_ble_eq_true rfl, Nat.le_of_ble_eq_true rfl⟩ hW va_S.rf hl.1 (Nat.le_of_ble_eq_true rfl) dL_leastWidth_4 (fun q hq ce q9 H locs hW hS hcell hv hcl => ?_) (fun v hv => nomatch hv)
  cases hq
  obtain ⟨x1, ht, g1⟩ := tab1 htab
  obtain ⟨e01, e02, e03, e04⟩ := exT_i g1
  refine vx_catch (name := exN 1) F.2.2.2.1 [] x1 [] ht (fun z hz => nomatch hz) (by simp [covers, e01, e02]) (by rw [e04]; decide) (by rw [e04]; exact F.2.2.2.2.1 _ q_1059) (va_Nw.use rfl (F.2.2.2.2.2.2.1.2.1 (exN 1, exN 1) (by decide +kernel))) hcell hv hcl ?_
  rw [e03]
  refine lv_astore_n (i := 3) (lv' := [(3, .ref q9), (0, .ref (b + 0)), (1, .int a1), (2, .ref (b + 331))]) hx hb dL_leastWidth_12 rfl hl (by decide) rfl (fun ls hl => ?_)
  refine lv_iconst (v := (1 : Int32)) hx hb dL_leastWidth_13 (by decide) ?_
  exact h_ret (n := G.2.2.2 14) F hr (fun x hx => nomatch hx) (by rw [gs_id]; exact hW) hS dL_leastWidth_14)
set_option maxHeartbeats 4000000 in
set_option maxRecDepth 100000 in
theorem c_L_line_ok {l : Launch} (hlT : l.stackTraces = false) {G : Gt} (h13 : G.2.2.2 13 = 1) {b : Nat} {a1 : Int32} {a2 : Int32} {μ : Mm} {v : Int32} (h : sh_X11_line a1 a2 μ = some (.inr v)) : vx_Met l yL_line (wU (Cond.codeWith yL_line cL_line 5 (some .int) [(0, 10, 13, 32), (0, 10, 17, 19)])) ({ frames := 8, cells := 2, slots := 12, locals := 133 } : Room) (PcW (fg G) b μ [.ref (b + 0), .int a1, .int a2, .ref (b + 331)]) (QL G b 0 (some v.toInt64) μ) (fun _ _ _ => False) 2 12 (fb b) :=
  hmet_of [.ref (b + 0), .int a1, .int a2, .ref (b + 331)] (by decide) (Nat.le_of_ble_eq_true rfl) (by
  intro p e s m args below meth c ls F hr htab hW hl
  have hx := F.1
  have hb := F.2.1
  replace hl : lv_has ls 5 [(0, .ref (b + 0)), (1, .int a1), (2, .int a2), (3, .ref (b + 331))] := hl
  refine lv_aload_n hx hb dL_line_0 rfl (lv_at hl 3 rfl) ?_
  refine lv_iconst (v := (0 : Int32)) hx hb dL_line_1 (by decide) ?_
  refine lv_aload_n hx hb dL_line_2 rfl (lv_at hl 0 rfl) ?_
  refine lv_iload_n hx hb dL_line_3 rfl (lv_at hl 1 rfl) ?_
  refine lv_iload_n hx hb dL_line_4 rfl (lv_at hl 2 rfl) ?_
  refine k_X11_line F hlT h q_1196 ⟨by decide, by decide, Nat.le_of_ble_eq_true rfl, Nat.le_of_ble_eq_true rfl⟩ hW va_S.rf hl.1 (Nat.le_of_ble_eq_true rfl) dL_line_5 (fun q hq => nomatch hq) (fun v hv H locs hW hS => ?_)
  cases hv
  refine lv_i2l hx hb dL_line_8 rfl ?_
  refine n_out h13 F hW hS (i64_nat _) dL_line_9 (fun H locs hW hS => ?_)
  refine lv_goto (tgt := 21) hx hb dL_line_10 (by decide) ?_
  refine lv_iconst (v := (0 : Int32)) hx hb dL_line_21 (by decide) ?_
  exact h_ret F hr (fun x hx => (i64_nat _).trans (Option.some.inj hx)) hW hS dL_line_22)
set_option maxHeartbeats 4000000 in
set_option maxRecDepth 100000 in
theorem c_L_line_x2 {l : Launch} (hlT : l.stackTraces = false) {G : Gt} (h13 : G.2.2.2 13 = 1) {b : Nat} {a1 : Int32} {a2 : Int32} {μ : Mm} (h : sh_X11_line a1 a2 μ = some (.inl 2)) : vx_Met l yL_line (wU (Cond.codeWith yL_line cL_line 5 (some .int) [(0, 10, 13, 32), (0, 10, 17, 19)])) ({ frames := 8, cells := 2, slots := 12, locals := 133 } : Room) (PcW (fg G) b μ [.ref (b + 0), .int a1, .int a2, .ref (b + 331)]) (QL G b 1 none μ) (fun _ _ _ => False) 2 12 (fb b) :=
  hmet_of [.ref (b + 0), .int a1, .int a2, .ref (b + 331)] (by decide) (Nat.le_of_ble_eq_true rfl) (by
  intro p e s m args below meth c ls F hr htab hW hl
  have hx := F.1
  have hb := F.2.1
  replace hl : lv_has ls 5 [(0, .ref (b + 0)), (1, .int a1), (2, .int a2), (3, .ref (b + 331))] := hl
  refine lv_aload_n hx hb dL_line_0 rfl (lv_at hl 3 rfl) ?_
  refine lv_iconst (v := (0 : Int32)) hx hb dL_line_1 (by decide) ?_
  refine lv_aload_n hx hb dL_line_2 rfl (lv_at hl 0 rfl) ?_
  refine lv_iload_n hx hb dL_line_3 rfl (lv_at hl 1 rfl) ?_
  refine lv_iload_n hx hb dL_line_4 rfl (lv_at hl 2 rfl) ?_
  refine k_X11_line F hlT h q_1196 ⟨by decide, by decide, Nat.le_of_ble_eq_true rfl, Nat.le_of_ble_eq_true rfl⟩ hW va_S.rf hl.1 (Nat.le_of_ble_eq_true rfl) dL_line_5 (fun q hq ce q9 H locs hW hS hcell hv hcl => ?_) (fun v hv => nomatch hv)
  cases hq
  obtain ⟨x1, x2, ht, g1, g2⟩ := tab2 htab
  obtain ⟨e01, e02, e03, e04⟩ := exT_i g1
  obtain ⟨e11, e12, e13, e14⟩ := exT_i g2
  refine vx_catch (name := exN 2) F.2.2.2.1 [] x1 [x2] ht (fun z hz => nomatch hz) (by simp [covers, e01, e02]) (by rw [e04]; decide) (by rw [e04]; exact F.2.2.2.2.1 _ q_1099) (va_Nw.use rfl (F.2.2.2.2.2.2.1.2.1 (exN 2, exN 2) (by decide +kernel))) hcell hv hcl ?_
  rw [e03]
  refine lv_astore (lv' := [(4, .ref q9), (0, .ref (b + 0)), (1, .int a1), (2, .int a2), (3, .ref (b + 331))]) hx hb dL_line_13 hl (by decide) rfl (fun ls hl => ?_)
  refine lv_iconst (v := (1 : Int32)) hx hb dL_line_15 (by decide) ?_
  exact h_ret (n := G.2.2.2 14) F hr (fun x hx => nomatch hx) (by rw [gs_id]; exact hW) hS dL_line_16)
set_option maxHeartbeats 4000000 in
set_option maxRecDepth 100000 in
theorem c_L_line_x1 {l : Launch} (hlT : l.stackTraces = false) {G : Gt} (h13 : G.2.2.2 13 = 1) {b : Nat} {a1 : Int32} {a2 : Int32} {μ : Mm} (h : sh_X11_line a1 a2 μ = some (.inl 1)) : vx_Met l yL_line (wU (Cond.codeWith yL_line cL_line 5 (some .int) [(0, 10, 13, 32), (0, 10, 17, 19)])) ({ frames := 8, cells := 2, slots := 12, locals := 133 } : Room) (PcW (fg G) b μ [.ref (b + 0), .int a1, .int a2, .ref (b + 331)]) (QL G b 2 none μ) (fun _ _ _ => False) 2 12 (fb b) :=
  hmet_of [.ref (b + 0), .int a1, .int a2, .ref (b + 331)] (by decide) (Nat.le_of_ble_eq_true rfl) (by
  intro p e s m args below meth c ls F hr htab hW hl
  have hx := F.1
  have hb := F.2.1
  replace hl : lv_has ls 5 [(0, .ref (b + 0)), (1, .int a1), (2, .int a2), (3, .ref (b + 331))] := hl
  refine lv_aload_n hx hb dL_line_0 rfl (lv_at hl 3 rfl) ?_
  refine lv_iconst (v := (0 : Int32)) hx hb dL_line_1 (by decide) ?_
  refine lv_aload_n hx hb dL_line_2 rfl (lv_at hl 0 rfl) ?_
  refine lv_iload_n hx hb dL_line_3 rfl (lv_at hl 1 rfl) ?_
  refine lv_iload_n hx hb dL_line_4 rfl (lv_at hl 2 rfl) ?_
  refine k_X11_line F hlT h q_1196 ⟨by decide, by decide, Nat.le_of_ble_eq_true rfl, Nat.le_of_ble_eq_true rfl⟩ hW va_S.rf hl.1 (Nat.le_of_ble_eq_true rfl) dL_line_5 (fun q hq ce q9 H locs hW hS hcell hv hcl => ?_) (fun v hv => nomatch hv)
  cases hq
  obtain ⟨x1, x2, ht, g1, g2⟩ := tab2 htab
  obtain ⟨e01, e02, e03, e04⟩ := exT_i g1
  obtain ⟨e11, e12, e13, e14⟩ := exT_i g2
  refine vx_catch (name := exN 1) F.2.2.2.1 [x1] x2 [] ht (fun z hz => by
    simp only [List.mem_cons, List.not_mem_nil, or_false] at hz
    subst hz
    · exact Or.inr ⟨by rw [e04]; decide, exN 2, by rw [e04]; exact F.2.2.2.2.1 _ q_1099, F.2.2.2.2.2.2.1.2.2.1 (exN 1, exN 2) (by decide +kernel)⟩) (by simp [covers, e11, e12]) (by rw [e14]; decide) (by rw [e14]; exact F.2.2.2.2.1 _ q_1059) (va_Nw.use rfl (F.2.2.2.2.2.2.1.2.1 (exN 1, exN 1) (by decide +kernel))) hcell hv hcl ?_
  rw [e13]
  refine lv_astore (lv' := [(4, .ref q9), (0, .ref (b + 0)), (1, .int a1), (2, .int a2), (3, .ref (b + 331))]) hx hb dL_line_17 hl (by decide) rfl (fun ls hl => ?_)
  refine lv_iconst (v := (2 : Int32)) hx hb dL_line_19 (by decide) ?_
  exact h_ret (n := G.2.2.2 14) F hr (fun x hx => nomatch hx) (by rw [gs_id]; exact hW) hS dL_line_20)
set_option maxHeartbeats 4000000 in
set_option maxRecDepth 100000 in
theorem c_L_lineCount_ok {l : Launch} (hlT : l.stackTraces = false) {G : Gt} (h13 : G.2.2.2 13 = 1) {b : Nat} {a1 : Int32} {μ : Mm} {v : Int32} (h : sh_X11_lineCount a1 μ = some (.inr v)) : vx_Met l yL_lineCount (wU (Cond.codeWith yL_lineCount cL_lineCount 4 (some .int) [(0, 9, 12, 32)])) ({ frames := 8, cells := 1, slots := 6, locals := 132 } : Room) (PcW (fg G) b μ [.ref (b + 0), .int a1, .ref (b + 331)]) (QL G b 0 (some v.toInt64) μ) (fun _ _ _ => False) 1 6 (fb b) :=
  hmet_of [.ref (b + 0), .int a1, .ref (b + 331)] (by decide) (Nat.le_of_ble_eq_true rfl) (by
  intro p e s m args below meth c ls F hr htab hW hl
  have hx := F.1
  have hb := F.2.1
  replace hl : lv_has ls 4 [(0, .ref (b + 0)), (1, .int a1), (2, .ref (b + 331))] := hl
  refine lv_aload_n hx hb dL_lineCount_0 rfl (lv_at hl 2 rfl) ?_
  refine lv_iconst (v := (0 : Int32)) hx hb dL_lineCount_1 (by decide) ?_
  refine lv_aload_n hx hb dL_lineCount_2 rfl (lv_at hl 0 rfl) ?_
  refine lv_iload_n hx hb dL_lineCount_3 rfl (lv_at hl 1 rfl) ?_
  refine k_X11_lineCount F hlT h q_1189 ⟨by decide, by decide, Nat.le_of_ble_eq_true rfl, Nat.le_of_ble_eq_true rfl⟩ hW va_S.rf hl.1 (Nat.le_of_ble_eq_true rfl) dL_lineCount_4 (fun q hq => nomatch hq) (fun v hv H locs hW hS => ?_)
  cases hv
  refine lv_i2l hx hb dL_lineCount_7 rfl ?_
  refine n_out h13 F hW hS (i64_nat _) dL_lineCount_8 (fun H locs hW hS => ?_)
  refine lv_goto (tgt := 15) hx hb dL_lineCount_9 (by decide) ?_
  refine lv_iconst (v := (0 : Int32)) hx hb dL_lineCount_15 (by decide) ?_
  exact h_ret F hr (fun x hx => (i64_nat _).trans (Option.some.inj hx)) hW hS dL_lineCount_16)
set_option maxHeartbeats 4000000 in
set_option maxRecDepth 100000 in
theorem c_L_lineCount_x2 {l : Launch} (hlT : l.stackTraces = false) {G : Gt} (h13 : G.2.2.2 13 = 1) {b : Nat} {a1 : Int32} {μ : Mm} (h : sh_X11_lineCount a1 μ = some (.inl 2)) : vx_Met l yL_lineCount (wU (Cond.codeWith yL_lineCount cL_lineCount 4 (some .int) [(0, 9, 12, 32)])) ({ frames := 8, cells := 1, slots := 6, locals := 132 } : Room) (PcW (fg G) b μ [.ref (b + 0), .int a1, .ref (b + 331)]) (QL G b 1 none μ) (fun _ _ _ => False) 1 6 (fb b) :=
  hmet_of [.ref (b + 0), .int a1, .ref (b + 331)] (by decide) (Nat.le_of_ble_eq_true rfl) (by
  intro p e s m args below meth c ls F hr htab hW hl
  have hx := F.1
  have hb := F.2.1
  replace hl : lv_has ls 4 [(0, .ref (b + 0)), (1, .int a1), (2, .ref (b + 331))] := hl
  refine lv_aload_n hx hb dL_lineCount_0 rfl (lv_at hl 2 rfl) ?_
  refine lv_iconst (v := (0 : Int32)) hx hb dL_lineCount_1 (by decide) ?_
  refine lv_aload_n hx hb dL_lineCount_2 rfl (lv_at hl 0 rfl) ?_
  refine lv_iload_n hx hb dL_lineCount_3 rfl (lv_at hl 1 rfl) ?_
  refine k_X11_lineCount F hlT h q_1189 ⟨by decide, by decide, Nat.le_of_ble_eq_true rfl, Nat.le_of_ble_eq_true rfl⟩ hW va_S.rf hl.1 (Nat.le_of_ble_eq_true rfl) dL_lineCount_4 (fun q hq ce q9 H locs hW hS hcell hv hcl => ?_) (fun v hv => nomatch hv)
  cases hq
  obtain ⟨x1, ht, g1⟩ := tab1 htab
  obtain ⟨e01, e02, e03, e04⟩ := exT_i g1
  refine vx_catch (name := exN 2) F.2.2.2.1 [] x1 [] ht (fun z hz => nomatch hz) (by simp [covers, e01, e02]) (by rw [e04]; decide) (by rw [e04]; exact F.2.2.2.2.1 _ q_1099) (va_Nw.use rfl (F.2.2.2.2.2.2.1.2.1 (exN 2, exN 2) (by decide +kernel))) hcell hv hcl ?_
  rw [e03]
  refine lv_astore_n (i := 3) (lv' := [(3, .ref q9), (0, .ref (b + 0)), (1, .int a1), (2, .ref (b + 331))]) hx hb dL_lineCount_12 rfl hl (by decide) rfl (fun ls hl => ?_)
  refine lv_iconst (v := (1 : Int32)) hx hb dL_lineCount_13 (by decide) ?_
  exact h_ret (n := G.2.2.2 14) F hr (fun x hx => nomatch hx) (by rw [gs_id]; exact hW) hS dL_lineCount_14)
set_option maxHeartbeats 4000000 in
set_option maxRecDepth 100000 in
theorem c_L_lineOnPage_ok {l : Launch} (hlT : l.stackTraces = false) {G : Gt} (h13 : G.2.2.2 13 = 1) {b : Nat} {a1 : Int32} {μ : Mm} {v : Int32} (h : sh_X11_lineOnPage a1 μ = some (.inr v)) : vx_Met l yL_lineOnPage (wU (Cond.codeWith yL_lineOnPage cL_lineOnPage 4 (some .int) [(0, 9, 12, 32)])) ({ frames := 8, cells := 1, slots := 6, locals := 132 } : Room) (PcW (fg G) b μ [.ref (b + 0), .int a1, .ref (b + 331)]) (QL G b 0 (some v.toInt64) μ) (fun _ _ _ => False) 1 6 (fb b) :=
  hmet_of [.ref (b + 0), .int a1, .ref (b + 331)] (by decide) (Nat.le_of_ble_eq_true rfl) (by
  intro p e s m args below meth c ls F hr htab hW hl
  have hx := F.1
  have hb := F.2.1
  replace hl : lv_has ls 4 [(0, .ref (b + 0)), (1, .int a1), (2, .ref (b + 331))] := hl
  refine lv_aload_n hx hb dL_lineOnPage_0 rfl (lv_at hl 2 rfl) ?_
  refine lv_iconst (v := (0 : Int32)) hx hb dL_lineOnPage_1 (by decide) ?_
  refine lv_aload_n hx hb dL_lineOnPage_2 rfl (lv_at hl 0 rfl) ?_
  refine lv_iload_n hx hb dL_lineOnPage_3 rfl (lv_at hl 1 rfl) ?_
  refine k_X11_lineOnPage F hlT h q_1150 ⟨by decide, by decide, Nat.le_of_ble_eq_true rfl, Nat.le_of_ble_eq_true rfl⟩ hW va_S.rf hl.1 (Nat.le_of_ble_eq_true rfl) dL_lineOnPage_4 (fun q hq => nomatch hq) (fun v hv H locs hW hS => ?_)
  cases hv
  refine lv_i2l hx hb dL_lineOnPage_7 rfl ?_
  refine n_out h13 F hW hS (i64_nat _) dL_lineOnPage_8 (fun H locs hW hS => ?_)
  refine lv_goto (tgt := 15) hx hb dL_lineOnPage_9 (by decide) ?_
  refine lv_iconst (v := (0 : Int32)) hx hb dL_lineOnPage_15 (by decide) ?_
  exact h_ret F hr (fun x hx => (i64_nat _).trans (Option.some.inj hx)) hW hS dL_lineOnPage_16)
set_option maxHeartbeats 4000000 in
set_option maxRecDepth 100000 in
theorem c_L_lineOnPage_x2 {l : Launch} (hlT : l.stackTraces = false) {G : Gt} (h13 : G.2.2.2 13 = 1) {b : Nat} {a1 : Int32} {μ : Mm} (h : sh_X11_lineOnPage a1 μ = some (.inl 2)) : vx_Met l yL_lineOnPage (wU (Cond.codeWith yL_lineOnPage cL_lineOnPage 4 (some .int) [(0, 9, 12, 32)])) ({ frames := 8, cells := 1, slots := 6, locals := 132 } : Room) (PcW (fg G) b μ [.ref (b + 0), .int a1, .ref (b + 331)]) (QL G b 1 none μ) (fun _ _ _ => False) 1 6 (fb b) :=
  hmet_of [.ref (b + 0), .int a1, .ref (b + 331)] (by decide) (Nat.le_of_ble_eq_true rfl) (by
  intro p e s m args below meth c ls F hr htab hW hl
  have hx := F.1
  have hb := F.2.1
  replace hl : lv_has ls 4 [(0, .ref (b + 0)), (1, .int a1), (2, .ref (b + 331))] := hl
  refine lv_aload_n hx hb dL_lineOnPage_0 rfl (lv_at hl 2 rfl) ?_
  refine lv_iconst (v := (0 : Int32)) hx hb dL_lineOnPage_1 (by decide) ?_
  refine lv_aload_n hx hb dL_lineOnPage_2 rfl (lv_at hl 0 rfl) ?_
  refine lv_iload_n hx hb dL_lineOnPage_3 rfl (lv_at hl 1 rfl) ?_
  refine k_X11_lineOnPage F hlT h q_1150 ⟨by decide, by decide, Nat.le_of_ble_eq_true rfl, Nat.le_of_ble_eq_true rfl⟩ hW va_S.rf hl.1 (Nat.le_of_ble_eq_true rfl) dL_lineOnPage_4 (fun q hq ce q9 H locs hW hS hcell hv hcl => ?_) (fun v hv => nomatch hv)
  cases hq
  obtain ⟨x1, ht, g1⟩ := tab1 htab
  obtain ⟨e01, e02, e03, e04⟩ := exT_i g1
  refine vx_catch (name := exN 2) F.2.2.2.1 [] x1 [] ht (fun z hz => nomatch hz) (by simp [covers, e01, e02]) (by rw [e04]; decide) (by rw [e04]; exact F.2.2.2.2.1 _ q_1099) (va_Nw.use rfl (F.2.2.2.2.2.2.1.2.1 (exN 2, exN 2) (by decide +kernel))) hcell hv hcl ?_
  rw [e03]
  refine lv_astore_n (i := 3) (lv' := [(3, .ref q9), (0, .ref (b + 0)), (1, .int a1), (2, .ref (b + 331))]) hx hb dL_lineOnPage_12 rfl hl (by decide) rfl (fun ls hl => ?_)
  refine lv_iconst (v := (1 : Int32)) hx hb dL_lineOnPage_13 (by decide) ?_
  exact h_ret (n := G.2.2.2 14) F hr (fun x hx => nomatch hx) (by rw [gs_id]; exact hW) hS dL_lineOnPage_14)
set_option maxHeartbeats 4000000 in
set_option maxRecDepth 100000 in
theorem c_L_longest_ok {l : Launch} (hlT : l.stackTraces = false) {G : Gt} (h13 : G.2.2.2 13 = 1) {b : Nat} {n : Nat} {a1 : Int32} {μ : Mm} {v : Int32} (h : sh_X11_longest n a1 μ = some (.inr v)) : vx_Met l yL_longest (wU (Cond.codeWith yL_longest cL_longest 4 (some .int) [(0, 9, 12, 19)])) ({ frames := 8, cells := 1, slots := 6, locals := 133 } : Room) (PcW (fg G) b μ [.ref (b + 0), .int a1, .ref (b + 331)]) (QL G b 0 (some v.toInt64) μ) (fun _ _ _ => False) 1 6 (fb b) :=
  hmet_of [.ref (b + 0), .int a1, .ref (b + 331)] (by decide) (Nat.le_of_ble_eq_true rfl) (by
  intro p e s m args below meth c ls F hr htab hW hl
  have hx := F.1
  have hb := F.2.1
  replace hl : lv_has ls 4 [(0, .ref (b + 0)), (1, .int a1), (2, .ref (b + 331))] := hl
  refine lv_aload_n hx hb dL_longest_0 rfl (lv_at hl 2 rfl) ?_
  refine lv_iconst (v := (0 : Int32)) hx hb dL_longest_1 (by decide) ?_
  refine lv_aload_n hx hb dL_longest_2 rfl (lv_at hl 0 rfl) ?_
  refine lv_iload_n hx hb dL_longest_3 rfl (lv_at hl 1 rfl) ?_
  refine k_X11_longest F hlT h q_1425 ⟨by decide, by decide, Nat.le_of_ble_eq_true rfl, Nat.le_of_ble_eq_true rfl⟩ hW va_S.rf hl.1 (Nat.le_of_ble_eq_true rfl) dL_longest_4 (fun q hq => nomatch hq) (fun v hv H locs hW hS => ?_)
  cases hv
  refine lv_i2l hx hb dL_longest_7 rfl ?_
  refine n_out h13 F hW hS (i64_nat _) dL_longest_8 (fun H locs hW hS => ?_)
  refine lv_goto (tgt := 15) hx hb dL_longest_9 (by decide) ?_
  refine lv_iconst (v := (0 : Int32)) hx hb dL_longest_15 (by decide) ?_
  exact h_ret F hr (fun x hx => (i64_nat _).trans (Option.some.inj hx)) hW hS dL_longest_16)
set_option maxHeartbeats 4000000 in
set_option maxRecDepth 100000 in
theorem c_L_longest_x1 {l : Launch} (hlT : l.stackTraces = false) {G : Gt} (h13 : G.2.2.2 13 = 1) {b : Nat} {n : Nat} {a1 : Int32} {μ : Mm} (h : sh_X11_longest n a1 μ = some (.inl 1)) : vx_Met l yL_longest (wU (Cond.codeWith yL_longest cL_longest 4 (some .int) [(0, 9, 12, 19)])) ({ frames := 8, cells := 1, slots := 6, locals := 133 } : Room) (PcW (fg G) b μ [.ref (b + 0), .int a1, .ref (b + 331)]) (QL G b 1 none μ) (fun _ _ _ => False) 1 6 (fb b) :=
  hmet_of [.ref (b + 0), .int a1, .ref (b + 331)] (by decide) (Nat.le_of_ble_eq_true rfl) (by
  intro p e s m args below meth c ls F hr htab hW hl
  have hx := F.1
  have hb := F.2.1
  replace hl : lv_has ls 4 [(0, .ref (b + 0)), (1, .int a1), (2, .ref (b + 331))] := hl
  refine lv_aload_n hx hb dL_longest_0 rfl (lv_at hl 2 rfl) ?_
  refine lv_iconst (v := (0 : Int32)) hx hb dL_longest_1 (by decide) ?_
  refine lv_aload_n hx hb dL_longest_2 rfl (lv_at hl 0 rfl) ?_
  refine lv_iload_n hx hb dL_longest_3 rfl (lv_at hl 1 rfl) ?_
  refine k_X11_longest F hlT h q_1425 ⟨by decide, by decide, Nat.le_of_ble_eq_true rfl, Nat.le_of_ble_eq_true rfl⟩ hW va_S.rf hl.1 (Nat.le_of_ble_eq_true rfl) dL_longest_4 (fun q hq ce q9 H locs hW hS hcell hv hcl => ?_) (fun v hv => nomatch hv)
  cases hq
  obtain ⟨x1, ht, g1⟩ := tab1 htab
  obtain ⟨e01, e02, e03, e04⟩ := exT_i g1
  refine vx_catch (name := exN 1) F.2.2.2.1 [] x1 [] ht (fun z hz => nomatch hz) (by simp [covers, e01, e02]) (by rw [e04]; decide) (by rw [e04]; exact F.2.2.2.2.1 _ q_1059) (va_Nw.use rfl (F.2.2.2.2.2.2.1.2.1 (exN 1, exN 1) (by decide +kernel))) hcell hv hcl ?_
  rw [e03]
  refine lv_astore_n (i := 3) (lv' := [(3, .ref q9), (0, .ref (b + 0)), (1, .int a1), (2, .ref (b + 331))]) hx hb dL_longest_12 rfl hl (by decide) rfl (fun ls hl => ?_)
  refine lv_iconst (v := (1 : Int32)) hx hb dL_longest_13 (by decide) ?_
  exact h_ret (n := G.2.2.2 14) F hr (fun x hx => nomatch hx) (by rw [gs_id]; exact hW) hS dL_longest_14)
set_option maxHeartbeats 4000000 in
set_option maxRecDepth 100000 in
theorem c_L_numberWidth_ok {l : Launch} (hlT : l.stackTraces = false) {G : Gt} (h13 : G.2.2.2 13 = 1) {b : Nat} {a1 : Int32} {μ : Mm} {v : Int32} (h : sh_X11_numberWidth a1 μ = some (.inr v)) : vx_Met l yL_numberWidth (wU (Cond.codeWith yL_numberWidth cL_numberWidth 4 (some .int) [(0, 9, 12, 32)])) ({ frames := 8, cells := 1, slots := 6, locals := 132 } : Room) (PcW (fg G) b μ [.ref (b + 0), .int a1, .ref (b + 331)]) (QL G b 0 (some v.toInt64) μ) (fun _ _ _ => False) 1 6 (fb b) :=
  hmet_of [.ref (b + 0), .int a1, .ref (b + 331)] (by decide) (Nat.le_of_ble_eq_true rfl) (by
  intro p e s m args below meth c ls F hr htab hW hl
  have hx := F.1
  have hb := F.2.1
  replace hl : lv_has ls 4 [(0, .ref (b + 0)), (1, .int a1), (2, .ref (b + 331))] := hl
  refine lv_aload_n hx hb dL_numberWidth_0 rfl (lv_at hl 2 rfl) ?_
  refine lv_iconst (v := (0 : Int32)) hx hb dL_numberWidth_1 (by decide) ?_
  refine lv_aload_n hx hb dL_numberWidth_2 rfl (lv_at hl 0 rfl) ?_
  refine lv_iload_n hx hb dL_numberWidth_3 rfl (lv_at hl 1 rfl) ?_
  refine k_X11_numberWidth F hlT h q_1157 ⟨by decide, by decide, Nat.le_of_ble_eq_true rfl, Nat.le_of_ble_eq_true rfl⟩ hW va_S.rf hl.1 (Nat.le_of_ble_eq_true rfl) dL_numberWidth_4 (fun q hq => nomatch hq) (fun v hv H locs hW hS => ?_)
  cases hv
  refine lv_i2l hx hb dL_numberWidth_7 rfl ?_
  refine n_out h13 F hW hS (i64_nat _) dL_numberWidth_8 (fun H locs hW hS => ?_)
  refine lv_goto (tgt := 15) hx hb dL_numberWidth_9 (by decide) ?_
  refine lv_iconst (v := (0 : Int32)) hx hb dL_numberWidth_15 (by decide) ?_
  exact h_ret F hr (fun x hx => (i64_nat _).trans (Option.some.inj hx)) hW hS dL_numberWidth_16)
set_option maxHeartbeats 4000000 in
set_option maxRecDepth 100000 in
theorem c_L_numberWidth_x2 {l : Launch} (hlT : l.stackTraces = false) {G : Gt} (h13 : G.2.2.2 13 = 1) {b : Nat} {a1 : Int32} {μ : Mm} (h : sh_X11_numberWidth a1 μ = some (.inl 2)) : vx_Met l yL_numberWidth (wU (Cond.codeWith yL_numberWidth cL_numberWidth 4 (some .int) [(0, 9, 12, 32)])) ({ frames := 8, cells := 1, slots := 6, locals := 132 } : Room) (PcW (fg G) b μ [.ref (b + 0), .int a1, .ref (b + 331)]) (QL G b 1 none μ) (fun _ _ _ => False) 1 6 (fb b) :=
  hmet_of [.ref (b + 0), .int a1, .ref (b + 331)] (by decide) (Nat.le_of_ble_eq_true rfl) (by
  intro p e s m args below meth c ls F hr htab hW hl
  have hx := F.1
  have hb := F.2.1
  replace hl : lv_has ls 4 [(0, .ref (b + 0)), (1, .int a1), (2, .ref (b + 331))] := hl
  refine lv_aload_n hx hb dL_numberWidth_0 rfl (lv_at hl 2 rfl) ?_
  refine lv_iconst (v := (0 : Int32)) hx hb dL_numberWidth_1 (by decide) ?_
  refine lv_aload_n hx hb dL_numberWidth_2 rfl (lv_at hl 0 rfl) ?_
  refine lv_iload_n hx hb dL_numberWidth_3 rfl (lv_at hl 1 rfl) ?_
  refine k_X11_numberWidth F hlT h q_1157 ⟨by decide, by decide, Nat.le_of_ble_eq_true rfl, Nat.le_of_ble_eq_true rfl⟩ hW va_S.rf hl.1 (Nat.le_of_ble_eq_true rfl) dL_numberWidth_4 (fun q hq ce q9 H locs hW hS hcell hv hcl => ?_) (fun v hv => nomatch hv)
  cases hq
  obtain ⟨x1, ht, g1⟩ := tab1 htab
  obtain ⟨e01, e02, e03, e04⟩ := exT_i g1
  refine vx_catch (name := exN 2) F.2.2.2.1 [] x1 [] ht (fun z hz => nomatch hz) (by simp [covers, e01, e02]) (by rw [e04]; decide) (by rw [e04]; exact F.2.2.2.2.1 _ q_1099) (va_Nw.use rfl (F.2.2.2.2.2.2.1.2.1 (exN 2, exN 2) (by decide +kernel))) hcell hv hcl ?_
  rw [e03]
  refine lv_astore_n (i := 3) (lv' := [(3, .ref q9), (0, .ref (b + 0)), (1, .int a1), (2, .ref (b + 331))]) hx hb dL_numberWidth_12 rfl hl (by decide) rfl (fun ls hl => ?_)
  refine lv_iconst (v := (1 : Int32)) hx hb dL_numberWidth_13 (by decide) ?_
  exact h_ret (n := G.2.2.2 14) F hr (fun x hx => nomatch hx) (by rw [gs_id]; exact hW) hS dL_numberWidth_14)
set_option maxHeartbeats 4000000 in
set_option maxRecDepth 100000 in
theorem c_L_outputByte_ok {l : Launch} (hlT : l.stackTraces = false) {G : Gt} (h13 : G.2.2.2 13 = 1) {b : Nat} {a1 : Int32} {μ : Mm} {v : Int32} (h : sh_X11_outputByte a1 μ = some (.inr v)) : vx_Met l yL_outputByte (wU (Cond.codeWith yL_outputByte cL_outputByte 4 (some .int) [(0, 9, 12, 32)])) ({ frames := 7, cells := 1, slots := 6, locals := 111 } : Room) (PcW (fg G) b μ [.ref (b + 0), .int a1, .ref (b + 331)]) (QL G b 0 (some v.toInt64) μ) (fun _ _ _ => False) 1 6 (fb b) :=
  hmet_of [.ref (b + 0), .int a1, .ref (b + 331)] (by decide) (Nat.le_of_ble_eq_true rfl) (by
  intro p e s m args below meth c ls F hr htab hW hl
  have hx := F.1
  have hb := F.2.1
  replace hl : lv_has ls 4 [(0, .ref (b + 0)), (1, .int a1), (2, .ref (b + 331))] := hl
  refine lv_aload_n hx hb dL_outputByte_0 rfl (lv_at hl 2 rfl) ?_
  refine lv_iconst (v := (0 : Int32)) hx hb dL_outputByte_1 (by decide) ?_
  refine lv_aload_n hx hb dL_outputByte_2 rfl (lv_at hl 0 rfl) ?_
  refine lv_iload_n hx hb dL_outputByte_3 rfl (lv_at hl 1 rfl) ?_
  refine k_X11_outputByte F hlT h q_1451 ⟨by decide, by decide, Nat.le_of_ble_eq_true rfl, Nat.le_of_ble_eq_true rfl⟩ hW va_S.rf hl.1 (Nat.le_of_ble_eq_true rfl) dL_outputByte_4 (fun q hq => nomatch hq) (fun v hv H locs hW hS => ?_)
  cases hv
  refine lv_i2l hx hb dL_outputByte_7 rfl ?_
  refine n_out h13 F hW hS (i64_nat _) dL_outputByte_8 (fun H locs hW hS => ?_)
  refine lv_goto (tgt := 15) hx hb dL_outputByte_9 (by decide) ?_
  refine lv_iconst (v := (0 : Int32)) hx hb dL_outputByte_15 (by decide) ?_
  exact h_ret F hr (fun x hx => (i64_nat _).trans (Option.some.inj hx)) hW hS dL_outputByte_16)
set_option maxHeartbeats 4000000 in
set_option maxRecDepth 100000 in
theorem c_L_outputByte_x2 {l : Launch} (hlT : l.stackTraces = false) {G : Gt} (h13 : G.2.2.2 13 = 1) {b : Nat} {a1 : Int32} {μ : Mm} (h : sh_X11_outputByte a1 μ = some (.inl 2)) : vx_Met l yL_outputByte (wU (Cond.codeWith yL_outputByte cL_outputByte 4 (some .int) [(0, 9, 12, 32)])) ({ frames := 7, cells := 1, slots := 6, locals := 111 } : Room) (PcW (fg G) b μ [.ref (b + 0), .int a1, .ref (b + 331)]) (QL G b 1 none μ) (fun _ _ _ => False) 1 6 (fb b) :=
  hmet_of [.ref (b + 0), .int a1, .ref (b + 331)] (by decide) (Nat.le_of_ble_eq_true rfl) (by
  intro p e s m args below meth c ls F hr htab hW hl
  have hx := F.1
  have hb := F.2.1
  replace hl : lv_has ls 4 [(0, .ref (b + 0)), (1, .int a1), (2, .ref (b + 331))] := hl
  refine lv_aload_n hx hb dL_outputByte_0 rfl (lv_at hl 2 rfl) ?_
  refine lv_iconst (v := (0 : Int32)) hx hb dL_outputByte_1 (by decide) ?_
  refine lv_aload_n hx hb dL_outputByte_2 rfl (lv_at hl 0 rfl) ?_
  refine lv_iload_n hx hb dL_outputByte_3 rfl (lv_at hl 1 rfl) ?_
  refine k_X11_outputByte F hlT h q_1451 ⟨by decide, by decide, Nat.le_of_ble_eq_true rfl, Nat.le_of_ble_eq_true rfl⟩ hW va_S.rf hl.1 (Nat.le_of_ble_eq_true rfl) dL_outputByte_4 (fun q hq ce q9 H locs hW hS hcell hv hcl => ?_) (fun v hv => nomatch hv)
  cases hq
  obtain ⟨x1, ht, g1⟩ := tab1 htab
  obtain ⟨e01, e02, e03, e04⟩ := exT_i g1
  refine vx_catch (name := exN 2) F.2.2.2.1 [] x1 [] ht (fun z hz => nomatch hz) (by simp [covers, e01, e02]) (by rw [e04]; decide) (by rw [e04]; exact F.2.2.2.2.1 _ q_1099) (va_Nw.use rfl (F.2.2.2.2.2.2.1.2.1 (exN 2, exN 2) (by decide +kernel))) hcell hv hcl ?_
  rw [e03]
  refine lv_astore_n (i := 3) (lv' := [(3, .ref q9), (0, .ref (b + 0)), (1, .int a1), (2, .ref (b + 331))]) hx hb dL_outputByte_12 rfl hl (by decide) rfl (fun ls hl => ?_)
  refine lv_iconst (v := (1 : Int32)) hx hb dL_outputByte_13 (by decide) ?_
  exact h_ret (n := G.2.2.2 14) F hr (fun x hx => nomatch hx) (by rw [gs_id]; exact hW) hS dL_outputByte_14)
set_option maxHeartbeats 4000000 in
set_option maxRecDepth 100000 in
theorem c_L_page_ok {l : Launch} (hlT : l.stackTraces = false) {G : Gt} (h13 : G.2.2.2 13 = 1) {b : Nat} {a1 : Int32} {μ : Mm} {v : Int32} (h : sh_X11_page a1 μ = some (.inr v)) : vx_Met l yL_page (wU (Cond.codeWith yL_page cL_page 4 (some .int) [(0, 9, 12, 32)])) ({ frames := 8, cells := 1, slots := 6, locals := 132 } : Room) (PcW (fg G) b μ [.ref (b + 0), .int a1, .ref (b + 331)]) (QL G b 0 (some v.toInt64) μ) (fun _ _ _ => False) 1 6 (fb b) :=
  hmet_of [.ref (b + 0), .int a1, .ref (b + 331)] (by decide) (Nat.le_of_ble_eq_true rfl) (by
  intro p e s m args below meth c ls F hr htab hW hl
  have hx := F.1
  have hb := F.2.1
  replace hl : lv_has ls 4 [(0, .ref (b + 0)), (1, .int a1), (2, .ref (b + 331))] := hl
  refine lv_aload_n hx hb dL_page_0 rfl (lv_at hl 2 rfl) ?_
  refine lv_iconst (v := (0 : Int32)) hx hb dL_page_1 (by decide) ?_
  refine lv_aload_n hx hb dL_page_2 rfl (lv_at hl 0 rfl) ?_
  refine lv_iload_n hx hb dL_page_3 rfl (lv_at hl 1 rfl) ?_
  refine k_X11_page F hlT h q_1136 ⟨by decide, by decide, Nat.le_of_ble_eq_true rfl, Nat.le_of_ble_eq_true rfl⟩ hW va_S.rf hl.1 (Nat.le_of_ble_eq_true rfl) dL_page_4 (fun q hq => nomatch hq) (fun v hv H locs hW hS => ?_)
  cases hv
  refine lv_i2l hx hb dL_page_7 rfl ?_
  refine n_out h13 F hW hS (i64_nat _) dL_page_8 (fun H locs hW hS => ?_)
  refine lv_goto (tgt := 15) hx hb dL_page_9 (by decide) ?_
  refine lv_iconst (v := (0 : Int32)) hx hb dL_page_15 (by decide) ?_
  exact h_ret F hr (fun x hx => (i64_nat _).trans (Option.some.inj hx)) hW hS dL_page_16)
set_option maxHeartbeats 4000000 in
set_option maxRecDepth 100000 in
theorem c_L_page_x2 {l : Launch} (hlT : l.stackTraces = false) {G : Gt} (h13 : G.2.2.2 13 = 1) {b : Nat} {a1 : Int32} {μ : Mm} (h : sh_X11_page a1 μ = some (.inl 2)) : vx_Met l yL_page (wU (Cond.codeWith yL_page cL_page 4 (some .int) [(0, 9, 12, 32)])) ({ frames := 8, cells := 1, slots := 6, locals := 132 } : Room) (PcW (fg G) b μ [.ref (b + 0), .int a1, .ref (b + 331)]) (QL G b 1 none μ) (fun _ _ _ => False) 1 6 (fb b) :=
  hmet_of [.ref (b + 0), .int a1, .ref (b + 331)] (by decide) (Nat.le_of_ble_eq_true rfl) (by
  intro p e s m args below meth c ls F hr htab hW hl
  have hx := F.1
  have hb := F.2.1
  replace hl : lv_has ls 4 [(0, .ref (b + 0)), (1, .int a1), (2, .ref (b + 331))] := hl
  refine lv_aload_n hx hb dL_page_0 rfl (lv_at hl 2 rfl) ?_
  refine lv_iconst (v := (0 : Int32)) hx hb dL_page_1 (by decide) ?_
  refine lv_aload_n hx hb dL_page_2 rfl (lv_at hl 0 rfl) ?_
  refine lv_iload_n hx hb dL_page_3 rfl (lv_at hl 1 rfl) ?_
  refine k_X11_page F hlT h q_1136 ⟨by decide, by decide, Nat.le_of_ble_eq_true rfl, Nat.le_of_ble_eq_true rfl⟩ hW va_S.rf hl.1 (Nat.le_of_ble_eq_true rfl) dL_page_4 (fun q hq ce q9 H locs hW hS hcell hv hcl => ?_) (fun v hv => nomatch hv)
  cases hq
  obtain ⟨x1, ht, g1⟩ := tab1 htab
  obtain ⟨e01, e02, e03, e04⟩ := exT_i g1
  refine vx_catch (name := exN 2) F.2.2.2.1 [] x1 [] ht (fun z hz => nomatch hz) (by simp [covers, e01, e02]) (by rw [e04]; decide) (by rw [e04]; exact F.2.2.2.2.1 _ q_1099) (va_Nw.use rfl (F.2.2.2.2.2.2.1.2.1 (exN 2, exN 2) (by decide +kernel))) hcell hv hcl ?_
  rw [e03]
  refine lv_astore_n (i := 3) (lv' := [(3, .ref q9), (0, .ref (b + 0)), (1, .int a1), (2, .ref (b + 331))]) hx hb dL_page_12 rfl hl (by decide) rfl (fun ls hl => ?_)
  refine lv_iconst (v := (1 : Int32)) hx hb dL_page_13 (by decide) ?_
  exact h_ret (n := G.2.2.2 14) F hr (fun x hx => nomatch hx) (by rw [gs_id]; exact hW) hS dL_page_14)
set_option maxHeartbeats 4000000 in
set_option maxRecDepth 100000 in
theorem c_L_pagesIf_ok {l : Launch} (hlT : l.stackTraces = false) {G : Gt} (h13 : G.2.2.2 13 = 1) {b : Nat} {n : Nat} {a1 : Int32} {a2 : Int32} {μ : Mm} {μ' : Mm} {v : Int32} (h : sh_X11_pagesIf n a1 a2 μ = some (.inr (v, μ'))) : vx_Met l yL_pagesIf (wU (Cond.codeWith yL_pagesIf cL_pagesIf 5 (some .int) [(0, 10, 13, 32), (0, 10, 17, 19)])) ({ frames := 8, cells := 2, slots := 12, locals := 144 } : Room) (PcW (fg G) b μ [.ref (b + 0), .int a1, .int a2, .ref (b + 331)]) (QL G b 0 (some v.toInt64) μ') (fun _ _ _ => False) 2 12 (fb b) :=
  hmet_of [.ref (b + 0), .int a1, .int a2, .ref (b + 331)] (by decide) (Nat.le_of_ble_eq_true rfl) (by
  intro p e s m args below meth c ls F hr htab hW hl
  have hx := F.1
  have hb := F.2.1
  replace hl : lv_has ls 5 [(0, .ref (b + 0)), (1, .int a1), (2, .int a2), (3, .ref (b + 331))] := hl
  refine lv_aload_n hx hb dL_pagesIf_0 rfl (lv_at hl 3 rfl) ?_
  refine lv_iconst (v := (0 : Int32)) hx hb dL_pagesIf_1 (by decide) ?_
  refine lv_aload_n hx hb dL_pagesIf_2 rfl (lv_at hl 0 rfl) ?_
  refine lv_iload_n hx hb dL_pagesIf_3 rfl (lv_at hl 1 rfl) ?_
  refine lv_iload_n hx hb dL_pagesIf_4 rfl (lv_at hl 2 rfl) ?_
  refine k_X11_pagesIf F hlT h q_1386 ⟨by decide, by decide, Nat.le_of_ble_eq_true rfl, Nat.le_of_ble_eq_true rfl⟩ hW va_S.rf hl.1 (Nat.le_of_ble_eq_true rfl) dL_pagesIf_5 (fun q hq => nomatch hq) (fun v hv H locs hW hS => ?_)
  cases hv
  refine lv_i2l hx hb dL_pagesIf_8 rfl ?_
  refine n_out h13 F hW hS (i64_nat _) dL_pagesIf_9 (fun H locs hW hS => ?_)
  refine lv_goto (tgt := 21) hx hb dL_pagesIf_10 (by decide) ?_
  refine lv_iconst (v := (0 : Int32)) hx hb dL_pagesIf_21 (by decide) ?_
  exact h_ret F hr (fun x hx => (i64_nat _).trans (Option.some.inj hx)) hW hS dL_pagesIf_22)
set_option maxHeartbeats 4000000 in
set_option maxRecDepth 100000 in
theorem c_L_pagesIf_x2 {l : Launch} (hlT : l.stackTraces = false) {G : Gt} (h13 : G.2.2.2 13 = 1) {b : Nat} {n : Nat} {a1 : Int32} {a2 : Int32} {μ : Mm} {μ' : Mm} (h : sh_X11_pagesIf n a1 a2 μ = some (.inl (2, μ'))) : vx_Met l yL_pagesIf (wU (Cond.codeWith yL_pagesIf cL_pagesIf 5 (some .int) [(0, 10, 13, 32), (0, 10, 17, 19)])) ({ frames := 8, cells := 2, slots := 12, locals := 144 } : Room) (PcW (fg G) b μ [.ref (b + 0), .int a1, .int a2, .ref (b + 331)]) (QL G b 1 none μ') (fun _ _ _ => False) 2 12 (fb b) :=
  hmet_of [.ref (b + 0), .int a1, .int a2, .ref (b + 331)] (by decide) (Nat.le_of_ble_eq_true rfl) (by
  intro p e s m args below meth c ls F hr htab hW hl
  have hx := F.1
  have hb := F.2.1
  replace hl : lv_has ls 5 [(0, .ref (b + 0)), (1, .int a1), (2, .int a2), (3, .ref (b + 331))] := hl
  refine lv_aload_n hx hb dL_pagesIf_0 rfl (lv_at hl 3 rfl) ?_
  refine lv_iconst (v := (0 : Int32)) hx hb dL_pagesIf_1 (by decide) ?_
  refine lv_aload_n hx hb dL_pagesIf_2 rfl (lv_at hl 0 rfl) ?_
  refine lv_iload_n hx hb dL_pagesIf_3 rfl (lv_at hl 1 rfl) ?_
  refine lv_iload_n hx hb dL_pagesIf_4 rfl (lv_at hl 2 rfl) ?_
  refine k_X11_pagesIf F hlT h q_1386 ⟨by decide, by decide, Nat.le_of_ble_eq_true rfl, Nat.le_of_ble_eq_true rfl⟩ hW va_S.rf hl.1 (Nat.le_of_ble_eq_true rfl) dL_pagesIf_5 (fun q hq ce q9 H locs hW hS hcell hv hcl => ?_) (fun v hv => nomatch hv)
  cases hq
  obtain ⟨x1, x2, ht, g1, g2⟩ := tab2 htab
  obtain ⟨e01, e02, e03, e04⟩ := exT_i g1
  obtain ⟨e11, e12, e13, e14⟩ := exT_i g2
  refine vx_catch (name := exN 2) F.2.2.2.1 [] x1 [x2] ht (fun z hz => nomatch hz) (by simp [covers, e01, e02]) (by rw [e04]; decide) (by rw [e04]; exact F.2.2.2.2.1 _ q_1099) (va_Nw.use rfl (F.2.2.2.2.2.2.1.2.1 (exN 2, exN 2) (by decide +kernel))) hcell hv hcl ?_
  rw [e03]
  refine lv_astore (lv' := [(4, .ref q9), (0, .ref (b + 0)), (1, .int a1), (2, .int a2), (3, .ref (b + 331))]) hx hb dL_pagesIf_13 hl (by decide) rfl (fun ls hl => ?_)
  refine lv_iconst (v := (1 : Int32)) hx hb dL_pagesIf_15 (by decide) ?_
  exact h_ret (n := G.2.2.2 14) F hr (fun x hx => nomatch hx) (by rw [gs_id]; exact hW) hS dL_pagesIf_16)
set_option maxHeartbeats 4000000 in
set_option maxRecDepth 100000 in
theorem c_L_pagesIf_x1 {l : Launch} (hlT : l.stackTraces = false) {G : Gt} (h13 : G.2.2.2 13 = 1) {b : Nat} {n : Nat} {a1 : Int32} {a2 : Int32} {μ : Mm} {μ' : Mm} (h : sh_X11_pagesIf n a1 a2 μ = some (.inl (1, μ'))) : vx_Met l yL_pagesIf (wU (Cond.codeWith yL_pagesIf cL_pagesIf 5 (some .int) [(0, 10, 13, 32), (0, 10, 17, 19)])) ({ frames := 8, cells := 2, slots := 12, locals := 144 } : Room) (PcW (fg G) b μ [.ref (b + 0), .int a1, .int a2, .ref (b + 331)]) (QL G b 2 none μ') (fun _ _ _ => False) 2 12 (fb b) :=
  hmet_of [.ref (b + 0), .int a1, .int a2, .ref (b + 331)] (by decide) (Nat.le_of_ble_eq_true rfl) (by
  intro p e s m args below meth c ls F hr htab hW hl
  have hx := F.1
  have hb := F.2.1
  replace hl : lv_has ls 5 [(0, .ref (b + 0)), (1, .int a1), (2, .int a2), (3, .ref (b + 331))] := hl
  refine lv_aload_n hx hb dL_pagesIf_0 rfl (lv_at hl 3 rfl) ?_
  refine lv_iconst (v := (0 : Int32)) hx hb dL_pagesIf_1 (by decide) ?_
  refine lv_aload_n hx hb dL_pagesIf_2 rfl (lv_at hl 0 rfl) ?_
  refine lv_iload_n hx hb dL_pagesIf_3 rfl (lv_at hl 1 rfl) ?_
  refine lv_iload_n hx hb dL_pagesIf_4 rfl (lv_at hl 2 rfl) ?_
  refine k_X11_pagesIf F hlT h q_1386 ⟨by decide, by decide, Nat.le_of_ble_eq_true rfl, Nat.le_of_ble_eq_true rfl⟩ hW va_S.rf hl.1 (Nat.le_of_ble_eq_true rfl) dL_pagesIf_5 (fun q hq ce q9 H locs hW hS hcell hv hcl => ?_) (fun v hv => nomatch hv)
  cases hq
  obtain ⟨x1, x2, ht, g1, g2⟩ := tab2 htab
  obtain ⟨e01, e02, e03, e04⟩ := exT_i g1
  obtain ⟨e11, e12, e13, e14⟩ := exT_i g2
  refine vx_catch (name := exN 1) F.2.2.2.1 [x1] x2 [] ht (fun z hz => by
    simp only [List.mem_cons, List.not_mem_nil, or_false] at hz
    subst hz
    · exact Or.inr ⟨by rw [e04]; decide, exN 2, by rw [e04]; exact F.2.2.2.2.1 _ q_1099, F.2.2.2.2.2.2.1.2.2.1 (exN 1, exN 2) (by decide +kernel)⟩) (by simp [covers, e11, e12]) (by rw [e14]; decide) (by rw [e14]; exact F.2.2.2.2.1 _ q_1059) (va_Nw.use rfl (F.2.2.2.2.2.2.1.2.1 (exN 1, exN 1) (by decide +kernel))) hcell hv hcl ?_
  rw [e13]
  refine lv_astore (lv' := [(4, .ref q9), (0, .ref (b + 0)), (1, .int a1), (2, .int a2), (3, .ref (b + 331))]) hx hb dL_pagesIf_17 hl (by decide) rfl (fun ls hl => ?_)
  refine lv_iconst (v := (2 : Int32)) hx hb dL_pagesIf_19 (by decide) ?_
  exact h_ret (n := G.2.2.2 14) F hr (fun x hx => nomatch hx) (by rw [gs_id]; exact hW) hS dL_pagesIf_20)
set_option maxHeartbeats 4000000 in
set_option maxRecDepth 100000 in
theorem c_L_remove_ok {l : Launch} (hlT : l.stackTraces = false) {G : Gt} (h13 : G.2.2.2 13 = 1) {b : Nat} {n : Nat} {a1 : Int32} {μ : Mm} {μ' : Mm} {v : Int32} (h : sh_X11_remove n a1 μ = some (.inr (v, μ'))) : vx_Met l yL_remove (wU (Cond.codeWith yL_remove cL_remove 4 (some .int) [(0, 9, 12, 32)])) ({ frames := 8, cells := 1, slots := 6, locals := 165 } : Room) (PcW (fg G) b μ [.ref (b + 0), .int a1, .ref (b + 331)]) (QL G b 0 (some v.toInt64) μ') (fun _ _ _ => False) 1 6 (fb b) :=
  hmet_of [.ref (b + 0), .int a1, .ref (b + 331)] (by decide) (Nat.le_of_ble_eq_true rfl) (by
  intro p e s m args below meth c ls F hr htab hW hl
  have hx := F.1
  have hb := F.2.1
  replace hl : lv_has ls 4 [(0, .ref (b + 0)), (1, .int a1), (2, .ref (b + 331))] := hl
  refine lv_aload_n hx hb dL_remove_0 rfl (lv_at hl 2 rfl) ?_
  refine lv_iconst (v := (0 : Int32)) hx hb dL_remove_1 (by decide) ?_
  refine lv_aload_n hx hb dL_remove_2 rfl (lv_at hl 0 rfl) ?_
  refine lv_iload_n hx hb dL_remove_3 rfl (lv_at hl 1 rfl) ?_
  refine k_X11_remove F hlT h q_1343 ⟨by decide, by decide, Nat.le_of_ble_eq_true rfl, Nat.le_of_ble_eq_true rfl⟩ hW va_S.rf hl.1 (Nat.le_of_ble_eq_true rfl) dL_remove_4 (fun q hq => nomatch hq) (fun v hv H locs hW hS => ?_)
  cases hv
  refine lv_i2l hx hb dL_remove_7 rfl ?_
  refine n_out h13 F hW hS (i64_nat _) dL_remove_8 (fun H locs hW hS => ?_)
  refine lv_goto (tgt := 15) hx hb dL_remove_9 (by decide) ?_
  refine lv_iconst (v := (0 : Int32)) hx hb dL_remove_15 (by decide) ?_
  exact h_ret F hr (fun x hx => (i64_nat _).trans (Option.some.inj hx)) hW hS dL_remove_16)
set_option maxHeartbeats 4000000 in
set_option maxRecDepth 100000 in
theorem c_L_remove_x2 {l : Launch} (hlT : l.stackTraces = false) {G : Gt} (h13 : G.2.2.2 13 = 1) {b : Nat} {n : Nat} {a1 : Int32} {μ : Mm} {μ' : Mm} (h : sh_X11_remove n a1 μ = some (.inl (2, μ'))) : vx_Met l yL_remove (wU (Cond.codeWith yL_remove cL_remove 4 (some .int) [(0, 9, 12, 32)])) ({ frames := 8, cells := 1, slots := 6, locals := 165 } : Room) (PcW (fg G) b μ [.ref (b + 0), .int a1, .ref (b + 331)]) (QL G b 1 none μ') (fun _ _ _ => False) 1 6 (fb b) :=
  hmet_of [.ref (b + 0), .int a1, .ref (b + 331)] (by decide) (Nat.le_of_ble_eq_true rfl) (by
  intro p e s m args below meth c ls F hr htab hW hl
  have hx := F.1
  have hb := F.2.1
  replace hl : lv_has ls 4 [(0, .ref (b + 0)), (1, .int a1), (2, .ref (b + 331))] := hl
  refine lv_aload_n hx hb dL_remove_0 rfl (lv_at hl 2 rfl) ?_
  refine lv_iconst (v := (0 : Int32)) hx hb dL_remove_1 (by decide) ?_
  refine lv_aload_n hx hb dL_remove_2 rfl (lv_at hl 0 rfl) ?_
  refine lv_iload_n hx hb dL_remove_3 rfl (lv_at hl 1 rfl) ?_
  refine k_X11_remove F hlT h q_1343 ⟨by decide, by decide, Nat.le_of_ble_eq_true rfl, Nat.le_of_ble_eq_true rfl⟩ hW va_S.rf hl.1 (Nat.le_of_ble_eq_true rfl) dL_remove_4 (fun q hq ce q9 H locs hW hS hcell hv hcl => ?_) (fun v hv => nomatch hv)
  cases hq
  obtain ⟨x1, ht, g1⟩ := tab1 htab
  obtain ⟨e01, e02, e03, e04⟩ := exT_i g1
  refine vx_catch (name := exN 2) F.2.2.2.1 [] x1 [] ht (fun z hz => nomatch hz) (by simp [covers, e01, e02]) (by rw [e04]; decide) (by rw [e04]; exact F.2.2.2.2.1 _ q_1099) (va_Nw.use rfl (F.2.2.2.2.2.2.1.2.1 (exN 2, exN 2) (by decide +kernel))) hcell hv hcl ?_
  rw [e03]
  refine lv_astore_n (i := 3) (lv' := [(3, .ref q9), (0, .ref (b + 0)), (1, .int a1), (2, .ref (b + 331))]) hx hb dL_remove_12 rfl hl (by decide) rfl (fun ls hl => ?_)
  refine lv_iconst (v := (1 : Int32)) hx hb dL_remove_13 (by decide) ?_
  exact h_ret (n := G.2.2.2 14) F hr (fun x hx => nomatch hx) (by rw [gs_id]; exact hW) hS dL_remove_14)
set_option maxHeartbeats 4000000 in
set_option maxRecDepth 100000 in
theorem c_L_section_ok {l : Launch} (hlT : l.stackTraces = false) {G : Gt} (h13 : G.2.2.2 13 = 1) {b : Nat} {a1 : Int32} {a2 : Int32} {μ : Mm} {v : Int32} (h : sh_X11_section a1 a2 μ = some (.inr v)) : vx_Met l yL_section (wU (Cond.codeWith yL_section cL_section 5 (some .int) [(0, 10, 13, 32), (0, 10, 17, 19)])) ({ frames := 8, cells := 2, slots := 12, locals := 133 } : Room) (PcW (fg G) b μ [.ref (b + 0), .int a1, .int a2, .ref (b + 331)]) (QL G b 0 (some v.toInt64) μ) (fun _ _ _ => False) 2 12 (fb b) :=
  hmet_of [.ref (b + 0), .int a1, .int a2, .ref (b + 331)] (by decide) (Nat.le_of_ble_eq_true rfl) (by
  intro p e s m args below meth c ls F hr htab hW hl
  have hx := F.1
  have hb := F.2.1
  replace hl : lv_has ls 5 [(0, .ref (b + 0)), (1, .int a1), (2, .int a2), (3, .ref (b + 331))] := hl
  refine lv_aload_n hx hb dL_section_0 rfl (lv_at hl 3 rfl) ?_
  refine lv_iconst (v := (0 : Int32)) hx hb dL_section_1 (by decide) ?_
  refine lv_aload_n hx hb dL_section_2 rfl (lv_at hl 0 rfl) ?_
  refine lv_iload_n hx hb dL_section_3 rfl (lv_at hl 1 rfl) ?_
  refine lv_iload_n hx hb dL_section_4 rfl (lv_at hl 2 rfl) ?_
  refine k_X11_section F hlT h q_1100 ⟨by decide, by decide, Nat.le_of_ble_eq_true rfl, Nat.le_of_ble_eq_true rfl⟩ hW va_S.rf hl.1 (Nat.le_of_ble_eq_true rfl) dL_section_5 (fun q hq => nomatch hq) (fun v hv H locs hW hS => ?_)
  cases hv
  refine lv_i2l hx hb dL_section_8 rfl ?_
  refine n_out h13 F hW hS (i64_nat _) dL_section_9 (fun H locs hW hS => ?_)
  refine lv_goto (tgt := 21) hx hb dL_section_10 (by decide) ?_
  refine lv_iconst (v := (0 : Int32)) hx hb dL_section_21 (by decide) ?_
  exact h_ret F hr (fun x hx => (i64_nat _).trans (Option.some.inj hx)) hW hS dL_section_22)
set_option maxHeartbeats 4000000 in
set_option maxRecDepth 100000 in
theorem c_L_section_x2 {l : Launch} (hlT : l.stackTraces = false) {G : Gt} (h13 : G.2.2.2 13 = 1) {b : Nat} {a1 : Int32} {a2 : Int32} {μ : Mm} (h : sh_X11_section a1 a2 μ = some (.inl 2)) : vx_Met l yL_section (wU (Cond.codeWith yL_section cL_section 5 (some .int) [(0, 10, 13, 32), (0, 10, 17, 19)])) ({ frames := 8, cells := 2, slots := 12, locals := 133 } : Room) (PcW (fg G) b μ [.ref (b + 0), .int a1, .int a2, .ref (b + 331)]) (QL G b 1 none μ) (fun _ _ _ => False) 2 12 (fb b) :=
  hmet_of [.ref (b + 0), .int a1, .int a2, .ref (b + 331)] (by decide) (Nat.le_of_ble_eq_true rfl) (by
  intro p e s m args below meth c ls F hr htab hW hl
  have hx := F.1
  have hb := F.2.1
  replace hl : lv_has ls 5 [(0, .ref (b + 0)), (1, .int a1), (2, .int a2), (3, .ref (b + 331))] := hl
  refine lv_aload_n hx hb dL_section_0 rfl (lv_at hl 3 rfl) ?_
  refine lv_iconst (v := (0 : Int32)) hx hb dL_section_1 (by decide) ?_
  refine lv_aload_n hx hb dL_section_2 rfl (lv_at hl 0 rfl) ?_
  refine lv_iload_n hx hb dL_section_3 rfl (lv_at hl 1 rfl) ?_
  refine lv_iload_n hx hb dL_section_4 rfl (lv_at hl 2 rfl) ?_
  refine k_X11_section F hlT h q_1100 ⟨by decide, by decide, Nat.le_of_ble_eq_true rfl, Nat.le_of_ble_eq_true rfl⟩ hW va_S.rf hl.1 (Nat.le_of_ble_eq_true rfl) dL_section_5 (fun q hq ce q9 H locs hW hS hcell hv hcl => ?_) (fun v hv => nomatch hv)
  cases hq
  obtain ⟨x1, x2, ht, g1, g2⟩ := tab2 htab
  obtain ⟨e01, e02, e03, e04⟩ := exT_i g1
  obtain ⟨e11, e12, e13, e14⟩ := exT_i g2
  refine vx_catch (name := exN 2) F.2.2.2.1 [] x1 [x2] ht (fun z hz => nomatch hz) (by simp [covers, e01, e02]) (by rw [e04]; decide) (by rw [e04]; exact F.2.2.2.2.1 _ q_1099) (va_Nw.use rfl (F.2.2.2.2.2.2.1.2.1 (exN 2, exN 2) (by decide +kernel))) hcell hv hcl ?_
  rw [e03]
  refine lv_astore (lv' := [(4, .ref q9), (0, .ref (b + 0)), (1, .int a1), (2, .int a2), (3, .ref (b + 331))]) hx hb dL_section_13 hl (by decide) rfl (fun ls hl => ?_)
  refine lv_iconst (v := (1 : Int32)) hx hb dL_section_15 (by decide) ?_
  exact h_ret (n := G.2.2.2 14) F hr (fun x hx => nomatch hx) (by rw [gs_id]; exact hW) hS dL_section_16)
set_option maxHeartbeats 4000000 in
set_option maxRecDepth 100000 in
theorem c_L_section_x1 {l : Launch} (hlT : l.stackTraces = false) {G : Gt} (h13 : G.2.2.2 13 = 1) {b : Nat} {a1 : Int32} {a2 : Int32} {μ : Mm} (h : sh_X11_section a1 a2 μ = some (.inl 1)) : vx_Met l yL_section (wU (Cond.codeWith yL_section cL_section 5 (some .int) [(0, 10, 13, 32), (0, 10, 17, 19)])) ({ frames := 8, cells := 2, slots := 12, locals := 133 } : Room) (PcW (fg G) b μ [.ref (b + 0), .int a1, .int a2, .ref (b + 331)]) (QL G b 2 none μ) (fun _ _ _ => False) 2 12 (fb b) :=
  hmet_of [.ref (b + 0), .int a1, .int a2, .ref (b + 331)] (by decide) (Nat.le_of_ble_eq_true rfl) (by
  intro p e s m args below meth c ls F hr htab hW hl
  have hx := F.1
  have hb := F.2.1
  replace hl : lv_has ls 5 [(0, .ref (b + 0)), (1, .int a1), (2, .int a2), (3, .ref (b + 331))] := hl
  refine lv_aload_n hx hb dL_section_0 rfl (lv_at hl 3 rfl) ?_
  refine lv_iconst (v := (0 : Int32)) hx hb dL_section_1 (by decide) ?_
  refine lv_aload_n hx hb dL_section_2 rfl (lv_at hl 0 rfl) ?_
  refine lv_iload_n hx hb dL_section_3 rfl (lv_at hl 1 rfl) ?_
  refine lv_iload_n hx hb dL_section_4 rfl (lv_at hl 2 rfl) ?_
  refine k_X11_section F hlT h q_1100 ⟨by decide, by decide, Nat.le_of_ble_eq_true rfl, Nat.le_of_ble_eq_true rfl⟩ hW va_S.rf hl.1 (Nat.le_of_ble_eq_true rfl) dL_section_5 (fun q hq ce q9 H locs hW hS hcell hv hcl => ?_) (fun v hv => nomatch hv)
  cases hq
  obtain ⟨x1, x2, ht, g1, g2⟩ := tab2 htab
  obtain ⟨e01, e02, e03, e04⟩ := exT_i g1
  obtain ⟨e11, e12, e13, e14⟩ := exT_i g2
  refine vx_catch (name := exN 1) F.2.2.2.1 [x1] x2 [] ht (fun z hz => by
    simp only [List.mem_cons, List.not_mem_nil, or_false] at hz
    subst hz
    · exact Or.inr ⟨by rw [e04]; decide, exN 2, by rw [e04]; exact F.2.2.2.2.1 _ q_1099, F.2.2.2.2.2.2.1.2.2.1 (exN 1, exN 2) (by decide +kernel)⟩) (by simp [covers, e11, e12]) (by rw [e14]; decide) (by rw [e14]; exact F.2.2.2.2.1 _ q_1059) (va_Nw.use rfl (F.2.2.2.2.2.2.1.2.1 (exN 1, exN 1) (by decide +kernel))) hcell hv hcl ?_
  rw [e13]
  refine lv_astore (lv' := [(4, .ref q9), (0, .ref (b + 0)), (1, .int a1), (2, .int a2), (3, .ref (b + 331))]) hx hb dL_section_17 hl (by decide) rfl (fun ls hl => ?_)
  refine lv_iconst (v := (2 : Int32)) hx hb dL_section_19 (by decide) ?_
  exact h_ret (n := G.2.2.2 14) F hr (fun x hx => nomatch hx) (by rw [gs_id]; exact hW) hS dL_section_20)
set_option maxHeartbeats 4000000 in
set_option maxRecDepth 100000 in
theorem c_L_sectionAt_ok {l : Launch} (hlT : l.stackTraces = false) {G : Gt} (h13 : G.2.2.2 13 = 1) {b : Nat} {n : Nat} {a1 : Int32} {μ : Mm} {v : Int32} (h : sh_X11_sectionAt n a1 μ = some (.inr v)) : vx_Met l yL_sectionAt (wU (Cond.codeWith yL_sectionAt cL_sectionAt 4 (some .int) [(0, 9, 12, 32)])) ({ frames := 7, cells := 1, slots := 6, locals := 113 } : Room) (PcW (fg G) b μ [.ref (b + 0), .int a1, .ref (b + 331)]) (QL G b 0 (some v.toInt64) μ) (fun _ _ _ => False) 1 6 (fb b) :=
  hmet_of [.ref (b + 0), .int a1, .ref (b + 331)] (by decide) (Nat.le_of_ble_eq_true rfl) (by
  intro p e s m args below meth c ls F hr htab hW hl
  have hx := F.1
  have hb := F.2.1
  replace hl : lv_has ls 4 [(0, .ref (b + 0)), (1, .int a1), (2, .ref (b + 331))] := hl
  refine lv_aload_n hx hb dL_sectionAt_0 rfl (lv_at hl 2 rfl) ?_
  refine lv_iconst (v := (0 : Int32)) hx hb dL_sectionAt_1 (by decide) ?_
  refine lv_aload_n hx hb dL_sectionAt_2 rfl (lv_at hl 0 rfl) ?_
  refine lv_iload_n hx hb dL_sectionAt_3 rfl (lv_at hl 1 rfl) ?_
  refine k_X11_sectionAt F hlT h q_1174 ⟨by decide, by decide, Nat.le_of_ble_eq_true rfl, Nat.le_of_ble_eq_true rfl⟩ hW va_S.rf hl.1 (Nat.le_of_ble_eq_true rfl) dL_sectionAt_4 (fun q hq => nomatch hq) (fun v hv H locs hW hS => ?_)
  cases hv
  refine lv_i2l hx hb dL_sectionAt_7 rfl ?_
  refine n_out h13 F hW hS (i64_nat _) dL_sectionAt_8 (fun H locs hW hS => ?_)
  refine lv_goto (tgt := 15) hx hb dL_sectionAt_9 (by decide) ?_
  refine lv_iconst (v := (0 : Int32)) hx hb dL_sectionAt_15 (by decide) ?_
  exact h_ret F hr (fun x hx => (i64_nat _).trans (Option.some.inj hx)) hW hS dL_sectionAt_16)
set_option maxHeartbeats 4000000 in
set_option maxRecDepth 100000 in
theorem c_L_sectionAt_x2 {l : Launch} (hlT : l.stackTraces = false) {G : Gt} (h13 : G.2.2.2 13 = 1) {b : Nat} {n : Nat} {a1 : Int32} {μ : Mm} (h : sh_X11_sectionAt n a1 μ = some (.inl 2)) : vx_Met l yL_sectionAt (wU (Cond.codeWith yL_sectionAt cL_sectionAt 4 (some .int) [(0, 9, 12, 32)])) ({ frames := 7, cells := 1, slots := 6, locals := 113 } : Room) (PcW (fg G) b μ [.ref (b + 0), .int a1, .ref (b + 331)]) (QL G b 1 none μ) (fun _ _ _ => False) 1 6 (fb b) :=
  hmet_of [.ref (b + 0), .int a1, .ref (b + 331)] (by decide) (Nat.le_of_ble_eq_true rfl) (by
  intro p e s m args below meth c ls F hr htab hW hl
  have hx := F.1
  have hb := F.2.1
  replace hl : lv_has ls 4 [(0, .ref (b + 0)), (1, .int a1), (2, .ref (b + 331))] := hl
  refine lv_aload_n hx hb dL_sectionAt_0 rfl (lv_at hl 2 rfl) ?_
  refine lv_iconst (v := (0 : Int32)) hx hb dL_sectionAt_1 (by decide) ?_
  refine lv_aload_n hx hb dL_sectionAt_2 rfl (lv_at hl 0 rfl) ?_
  refine lv_iload_n hx hb dL_sectionAt_3 rfl (lv_at hl 1 rfl) ?_
  refine k_X11_sectionAt F hlT h q_1174 ⟨by decide, by decide, Nat.le_of_ble_eq_true rfl, Nat.le_of_ble_eq_true rfl⟩ hW va_S.rf hl.1 (Nat.le_of_ble_eq_true rfl) dL_sectionAt_4 (fun q hq ce q9 H locs hW hS hcell hv hcl => ?_) (fun v hv => nomatch hv)
  cases hq
  obtain ⟨x1, ht, g1⟩ := tab1 htab
  obtain ⟨e01, e02, e03, e04⟩ := exT_i g1
  refine vx_catch (name := exN 2) F.2.2.2.1 [] x1 [] ht (fun z hz => nomatch hz) (by simp [covers, e01, e02]) (by rw [e04]; decide) (by rw [e04]; exact F.2.2.2.2.1 _ q_1099) (va_Nw.use rfl (F.2.2.2.2.2.2.1.2.1 (exN 2, exN 2) (by decide +kernel))) hcell hv hcl ?_
  rw [e03]
  refine lv_astore_n (i := 3) (lv' := [(3, .ref q9), (0, .ref (b + 0)), (1, .int a1), (2, .ref (b + 331))]) hx hb dL_sectionAt_12 rfl hl (by decide) rfl (fun ls hl => ?_)
  refine lv_iconst (v := (1 : Int32)) hx hb dL_sectionAt_13 (by decide) ?_
  exact h_ret (n := G.2.2.2 14) F hr (fun x hx => nomatch hx) (by rw [gs_id]; exact hW) hS dL_sectionAt_14)
set_option maxHeartbeats 4000000 in
set_option maxRecDepth 100000 in
theorem c_L_setGrid_ok {l : Launch} (hlT : l.stackTraces = false) {G : Gt} (h13 : G.2.2.2 13 = 1) {b : Nat} {n : Nat} {a1 : Int32} {μ : Mm} {μ' : Mm} {v : Int32} (h : sh_X11_setGrid n a1 μ = some (.inr (v, μ'))) : vx_Met l yL_setGrid (wU (Cond.codeWith yL_setGrid cL_setGrid 4 (some .int) [(0, 9, 12, 19)])) ({ frames := 7, cells := 1, slots := 6, locals := 177 } : Room) (PcW (fg G) b μ [.ref (b + 0), .int a1, .ref (b + 331)]) (QL G b 0 (some v.toInt64) μ') (fun _ _ _ => False) 1 6 (fb b) :=
  hmet_of [.ref (b + 0), .int a1, .ref (b + 331)] (by decide) (Nat.le_of_ble_eq_true rfl) (by
  intro p e s m args below meth c ls F hr htab hW hl
  have hx := F.1
  have hb := F.2.1
  replace hl : lv_has ls 4 [(0, .ref (b + 0)), (1, .int a1), (2, .ref (b + 331))] := hl
  refine lv_aload_n hx hb dL_setGrid_0 rfl (lv_at hl 2 rfl) ?_
  refine lv_iconst (v := (0 : Int32)) hx hb dL_setGrid_1 (by decide) ?_
  refine lv_aload_n hx hb dL_setGrid_2 rfl (lv_at hl 0 rfl) ?_
  refine lv_iload_n hx hb dL_setGrid_3 rfl (lv_at hl 1 rfl) ?_
  refine k_X11_setGrid F hlT h q_1367 ⟨by decide, by decide, Nat.le_of_ble_eq_true rfl, Nat.le_of_ble_eq_true rfl⟩ hW va_S.rf hl.1 (Nat.le_of_ble_eq_true rfl) dL_setGrid_4 (fun q hq => nomatch hq) (fun v hv H locs hW hS => ?_)
  cases hv
  refine lv_i2l hx hb dL_setGrid_7 rfl ?_
  refine n_out h13 F hW hS (i64_nat _) dL_setGrid_8 (fun H locs hW hS => ?_)
  refine lv_goto (tgt := 15) hx hb dL_setGrid_9 (by decide) ?_
  refine lv_iconst (v := (0 : Int32)) hx hb dL_setGrid_15 (by decide) ?_
  exact h_ret F hr (fun x hx => (i64_nat _).trans (Option.some.inj hx)) hW hS dL_setGrid_16)
set_option maxHeartbeats 4000000 in
set_option maxRecDepth 100000 in
theorem c_L_setGrid_x1 {l : Launch} (hlT : l.stackTraces = false) {G : Gt} (h13 : G.2.2.2 13 = 1) {b : Nat} {n : Nat} {a1 : Int32} {μ : Mm} {μ' : Mm} (h : sh_X11_setGrid n a1 μ = some (.inl (1, μ'))) : vx_Met l yL_setGrid (wU (Cond.codeWith yL_setGrid cL_setGrid 4 (some .int) [(0, 9, 12, 19)])) ({ frames := 7, cells := 1, slots := 6, locals := 177 } : Room) (PcW (fg G) b μ [.ref (b + 0), .int a1, .ref (b + 331)]) (QL G b 1 none μ') (fun _ _ _ => False) 1 6 (fb b) :=
  hmet_of [.ref (b + 0), .int a1, .ref (b + 331)] (by decide) (Nat.le_of_ble_eq_true rfl) (by
  intro p e s m args below meth c ls F hr htab hW hl
  have hx := F.1
  have hb := F.2.1
  replace hl : lv_has ls 4 [(0, .ref (b + 0)), (1, .int a1), (2, .ref (b + 331))] := hl
  refine lv_aload_n hx hb dL_setGrid_0 rfl (lv_at hl 2 rfl) ?_
  refine lv_iconst (v := (0 : Int32)) hx hb dL_setGrid_1 (by decide) ?_
  refine lv_aload_n hx hb dL_setGrid_2 rfl (lv_at hl 0 rfl) ?_
  refine lv_iload_n hx hb dL_setGrid_3 rfl (lv_at hl 1 rfl) ?_
  refine k_X11_setGrid F hlT h q_1367 ⟨by decide, by decide, Nat.le_of_ble_eq_true rfl, Nat.le_of_ble_eq_true rfl⟩ hW va_S.rf hl.1 (Nat.le_of_ble_eq_true rfl) dL_setGrid_4 (fun q hq ce q9 H locs hW hS hcell hv hcl => ?_) (fun v hv => nomatch hv)
  cases hq
  obtain ⟨x1, ht, g1⟩ := tab1 htab
  obtain ⟨e01, e02, e03, e04⟩ := exT_i g1
  refine vx_catch (name := exN 1) F.2.2.2.1 [] x1 [] ht (fun z hz => nomatch hz) (by simp [covers, e01, e02]) (by rw [e04]; decide) (by rw [e04]; exact F.2.2.2.2.1 _ q_1059) (va_Nw.use rfl (F.2.2.2.2.2.2.1.2.1 (exN 1, exN 1) (by decide +kernel))) hcell hv hcl ?_
  rw [e03]
  refine lv_astore_n (i := 3) (lv' := [(3, .ref q9), (0, .ref (b + 0)), (1, .int a1), (2, .ref (b + 331))]) hx hb dL_setGrid_12 rfl hl (by decide) rfl (fun ls hl => ?_)
  refine lv_iconst (v := (1 : Int32)) hx hb dL_setGrid_13 (by decide) ?_
  exact h_ret (n := G.2.2.2 14) F hr (fun x hx => nomatch hx) (by rw [gs_id]; exact hW) hS dL_setGrid_14)
set_option maxHeartbeats 4000000 in
set_option maxRecDepth 100000 in
theorem c_L_setLength_ok {l : Launch} (hlT : l.stackTraces = false) {G : Gt} (h13 : G.2.2.2 13 = 1) {b : Nat} {n : Nat} {a1 : Int32} {a2 : Int32} {μ : Mm} {μ' : Mm} {v : Int32} (h : sh_X11_setLength n a1 a2 μ = some (.inr (v, μ'))) : vx_Met l yL_setLength (wU (Cond.codeWith yL_setLength cL_setLength 5 (some .int) [(0, 10, 13, 32), (0, 10, 17, 19)])) ({ frames := 8, cells := 2, slots := 12, locals := 166 } : Room) (PcW (fg G) b μ [.ref (b + 0), .int a1, .int a2, .ref (b + 331)]) (QL G b 0 (some v.toInt64) μ') (fun _ _ _ => False) 2 12 (fb b) :=
  hmet_of [.ref (b + 0), .int a1, .int a2, .ref (b + 331)] (by decide) (Nat.le_of_ble_eq_true rfl) (by
  intro p e s m args below meth c ls F hr htab hW hl
  have hx := F.1
  have hb := F.2.1
  replace hl : lv_has ls 5 [(0, .ref (b + 0)), (1, .int a1), (2, .int a2), (3, .ref (b + 331))] := hl
  refine lv_aload_n hx hb dL_setLength_0 rfl (lv_at hl 3 rfl) ?_
  refine lv_iconst (v := (0 : Int32)) hx hb dL_setLength_1 (by decide) ?_
  refine lv_aload_n hx hb dL_setLength_2 rfl (lv_at hl 0 rfl) ?_
  refine lv_iload_n hx hb dL_setLength_3 rfl (lv_at hl 1 rfl) ?_
  refine lv_iload_n hx hb dL_setLength_4 rfl (lv_at hl 2 rfl) ?_
  refine k_X11_setLength F hlT h q_1281 ⟨by decide, by decide, Nat.le_of_ble_eq_true rfl, Nat.le_of_ble_eq_true rfl⟩ hW va_S.rf hl.1 (Nat.le_of_ble_eq_true rfl) dL_setLength_5 (fun q hq => nomatch hq) (fun v hv H locs hW hS => ?_)
  cases hv
  refine lv_i2l hx hb dL_setLength_8 rfl ?_
  refine n_out h13 F hW hS (i64_nat _) dL_setLength_9 (fun H locs hW hS => ?_)
  refine lv_goto (tgt := 21) hx hb dL_setLength_10 (by decide) ?_
  refine lv_iconst (v := (0 : Int32)) hx hb dL_setLength_21 (by decide) ?_
  exact h_ret F hr (fun x hx => (i64_nat _).trans (Option.some.inj hx)) hW hS dL_setLength_22)
set_option maxHeartbeats 4000000 in
set_option maxRecDepth 100000 in
theorem c_L_setLength_x2 {l : Launch} (hlT : l.stackTraces = false) {G : Gt} (h13 : G.2.2.2 13 = 1) {b : Nat} {n : Nat} {a1 : Int32} {a2 : Int32} {μ : Mm} {μ' : Mm} (h : sh_X11_setLength n a1 a2 μ = some (.inl (2, μ'))) : vx_Met l yL_setLength (wU (Cond.codeWith yL_setLength cL_setLength 5 (some .int) [(0, 10, 13, 32), (0, 10, 17, 19)])) ({ frames := 8, cells := 2, slots := 12, locals := 166 } : Room) (PcW (fg G) b μ [.ref (b + 0), .int a1, .int a2, .ref (b + 331)]) (QL G b 1 none μ') (fun _ _ _ => False) 2 12 (fb b) :=
  hmet_of [.ref (b + 0), .int a1, .int a2, .ref (b + 331)] (by decide) (Nat.le_of_ble_eq_true rfl) (by
  intro p e s m args below meth c ls F hr htab hW hl
  have hx := F.1
  have hb := F.2.1
  replace hl : lv_has ls 5 [(0, .ref (b + 0)), (1, .int a1), (2, .int a2), (3, .ref (b + 331))] := hl
  refine lv_aload_n hx hb dL_setLength_0 rfl (lv_at hl 3 rfl) ?_
  refine lv_iconst (v := (0 : Int32)) hx hb dL_setLength_1 (by decide) ?_
  refine lv_aload_n hx hb dL_setLength_2 rfl (lv_at hl 0 rfl) ?_
  refine lv_iload_n hx hb dL_setLength_3 rfl (lv_at hl 1 rfl) ?_
  refine lv_iload_n hx hb dL_setLength_4 rfl (lv_at hl 2 rfl) ?_
  refine k_X11_setLength F hlT h q_1281 ⟨by decide, by decide, Nat.le_of_ble_eq_true rfl, Nat.le_of_ble_eq_true rfl⟩ hW va_S.rf hl.1 (Nat.le_of_ble_eq_true rfl) dL_setLength_5 (fun q hq ce q9 H locs hW hS hcell hv hcl => ?_) (fun v hv => nomatch hv)
  cases hq
  obtain ⟨x1, x2, ht, g1, g2⟩ := tab2 htab
  obtain ⟨e01, e02, e03, e04⟩ := exT_i g1
  obtain ⟨e11, e12, e13, e14⟩ := exT_i g2
  refine vx_catch (name := exN 2) F.2.2.2.1 [] x1 [x2] ht (fun z hz => nomatch hz) (by simp [covers, e01, e02]) (by rw [e04]; decide) (by rw [e04]; exact F.2.2.2.2.1 _ q_1099) (va_Nw.use rfl (F.2.2.2.2.2.2.1.2.1 (exN 2, exN 2) (by decide +kernel))) hcell hv hcl ?_
  rw [e03]
  refine lv_astore (lv' := [(4, .ref q9), (0, .ref (b + 0)), (1, .int a1), (2, .int a2), (3, .ref (b + 331))]) hx hb dL_setLength_13 hl (by decide) rfl (fun ls hl => ?_)
  refine lv_iconst (v := (1 : Int32)) hx hb dL_setLength_15 (by decide) ?_
  exact h_ret (n := G.2.2.2 14) F hr (fun x hx => nomatch hx) (by rw [gs_id]; exact hW) hS dL_setLength_16)
set_option maxHeartbeats 4000000 in
set_option maxRecDepth 100000 in
theorem c_L_setLength_x1 {l : Launch} (hlT : l.stackTraces = false) {G : Gt} (h13 : G.2.2.2 13 = 1) {b : Nat} {n : Nat} {a1 : Int32} {a2 : Int32} {μ : Mm} {μ' : Mm} (h : sh_X11_setLength n a1 a2 μ = some (.inl (1, μ'))) : vx_Met l yL_setLength (wU (Cond.codeWith yL_setLength cL_setLength 5 (some .int) [(0, 10, 13, 32), (0, 10, 17, 19)])) ({ frames := 8, cells := 2, slots := 12, locals := 166 } : Room) (PcW (fg G) b μ [.ref (b + 0), .int a1, .int a2, .ref (b + 331)]) (QL G b 2 none μ') (fun _ _ _ => False) 2 12 (fb b) :=
  hmet_of [.ref (b + 0), .int a1, .int a2, .ref (b + 331)] (by decide) (Nat.le_of_ble_eq_true rfl) (by
  intro p e s m args below meth c ls F hr htab hW hl
  have hx := F.1
  have hb := F.2.1
  replace hl : lv_has ls 5 [(0, .ref (b + 0)), (1, .int a1), (2, .int a2), (3, .ref (b + 331))] := hl
  refine lv_aload_n hx hb dL_setLength_0 rfl (lv_at hl 3 rfl) ?_
  refine lv_iconst (v := (0 : Int32)) hx hb dL_setLength_1 (by decide) ?_
  refine lv_aload_n hx hb dL_setLength_2 rfl (lv_at hl 0 rfl) ?_
  refine lv_iload_n hx hb dL_setLength_3 rfl (lv_at hl 1 rfl) ?_
  refine lv_iload_n hx hb dL_setLength_4 rfl (lv_at hl 2 rfl) ?_
  refine k_X11_setLength F hlT h q_1281 ⟨by decide, by decide, Nat.le_of_ble_eq_true rfl, Nat.le_of_ble_eq_true rfl⟩ hW va_S.rf hl.1 (Nat.le_of_ble_eq_true rfl) dL_setLength_5 (fun q hq ce q9 H locs hW hS hcell hv hcl => ?_) (fun v hv => nomatch hv)
  cases hq
  obtain ⟨x1, x2, ht, g1, g2⟩ := tab2 htab
  obtain ⟨e01, e02, e03, e04⟩ := exT_i g1
  obtain ⟨e11, e12, e13, e14⟩ := exT_i g2
  refine vx_catch (name := exN 1) F.2.2.2.1 [x1] x2 [] ht (fun z hz => by
    simp only [List.mem_cons, List.not_mem_nil, or_false] at hz
    subst hz
    · exact Or.inr ⟨by rw [e04]; decide, exN 2, by rw [e04]; exact F.2.2.2.2.1 _ q_1099, F.2.2.2.2.2.2.1.2.2.1 (exN 1, exN 2) (by decide +kernel)⟩) (by simp [covers, e11, e12]) (by rw [e14]; decide) (by rw [e14]; exact F.2.2.2.2.1 _ q_1059) (va_Nw.use rfl (F.2.2.2.2.2.2.1.2.1 (exN 1, exN 1) (by decide +kernel))) hcell hv hcl ?_
  rw [e13]
  refine lv_astore (lv' := [(4, .ref q9), (0, .ref (b + 0)), (1, .int a1), (2, .int a2), (3, .ref (b + 331))]) hx hb dL_setLength_17 hl (by decide) rfl (fun ls hl => ?_)
  refine lv_iconst (v := (2 : Int32)) hx hb dL_setLength_19 (by decide) ?_
  exact h_ret (n := G.2.2.2 14) F hr (fun x hx => nomatch hx) (by rw [gs_id]; exact hW) hS dL_setLength_20)
set_option maxHeartbeats 4000000 in
set_option maxRecDepth 100000 in
theorem c_L_setLevel_ok {l : Launch} (hlT : l.stackTraces = false) {G : Gt} (h13 : G.2.2.2 13 = 1) {b : Nat} {n : Nat} {a1 : Int32} {a2 : Int32} {μ : Mm} {μ' : Mm} {v : Int32} (h : sh_X11_setLevel n a1 a2 μ = some (.inr (v, μ'))) : vx_Met l yL_setLevel (wU (Cond.codeWith yL_setLevel cL_setLevel 5 (some .int) [(0, 10, 13, 32), (0, 10, 17, 19)])) ({ frames := 8, cells := 3, slots := 18, locals := 166 } : Room) (PcW (fg G) b μ [.ref (b + 0), .int a1, .int a2, .ref (b + 331)]) (QL G b 0 (some v.toInt64) μ') (fun _ _ _ => False) 3 18 (fb b) :=
  hmet_of [.ref (b + 0), .int a1, .int a2, .ref (b + 331)] (by decide) (Nat.le_of_ble_eq_true rfl) (by
  intro p e s m args below meth c ls F hr htab hW hl
  have hx := F.1
  have hb := F.2.1
  replace hl : lv_has ls 5 [(0, .ref (b + 0)), (1, .int a1), (2, .int a2), (3, .ref (b + 331))] := hl
  refine lv_aload_n hx hb dL_setLevel_0 rfl (lv_at hl 3 rfl) ?_
  refine lv_iconst (v := (0 : Int32)) hx hb dL_setLevel_1 (by decide) ?_
  refine lv_aload_n hx hb dL_setLevel_2 rfl (lv_at hl 0 rfl) ?_
  refine lv_iload_n hx hb dL_setLevel_3 rfl (lv_at hl 1 rfl) ?_
  refine lv_iload_n hx hb dL_setLevel_4 rfl (lv_at hl 2 rfl) ?_
  refine k_X11_setLevel F hlT h q_1293 ⟨by decide, by decide, Nat.le_of_ble_eq_true rfl, Nat.le_of_ble_eq_true rfl⟩ hW va_S.rf hl.1 (Nat.le_of_ble_eq_true rfl) dL_setLevel_5 (fun q hq => nomatch hq) (fun v hv H locs hW hS => ?_)
  cases hv
  refine lv_i2l hx hb dL_setLevel_8 rfl ?_
  refine n_out h13 F hW hS (i64_nat _) dL_setLevel_9 (fun H locs hW hS => ?_)
  refine lv_goto (tgt := 21) hx hb dL_setLevel_10 (by decide) ?_
  refine lv_iconst (v := (0 : Int32)) hx hb dL_setLevel_21 (by decide) ?_
  exact h_ret F hr (fun x hx => (i64_nat _).trans (Option.some.inj hx)) hW hS dL_setLevel_22)
set_option maxHeartbeats 4000000 in
set_option maxRecDepth 100000 in
theorem c_L_setLevel_x2 {l : Launch} (hlT : l.stackTraces = false) {G : Gt} (h13 : G.2.2.2 13 = 1) {b : Nat} {n : Nat} {a1 : Int32} {a2 : Int32} {μ : Mm} {μ' : Mm} (h : sh_X11_setLevel n a1 a2 μ = some (.inl (2, μ'))) : vx_Met l yL_setLevel (wU (Cond.codeWith yL_setLevel cL_setLevel 5 (some .int) [(0, 10, 13, 32), (0, 10, 17, 19)])) ({ frames := 8, cells := 3, slots := 18, locals := 166 } : Room) (PcW (fg G) b μ [.ref (b + 0), .int a1, .int a2, .ref (b + 331)]) (QL G b 1 none μ') (fun _ _ _ => False) 3 18 (fb b) :=
  hmet_of [.ref (b + 0), .int a1, .int a2, .ref (b + 331)] (by decide) (Nat.le_of_ble_eq_true rfl) (by
  intro p e s m args below meth c ls F hr htab hW hl
  have hx := F.1
  have hb := F.2.1
  replace hl : lv_has ls 5 [(0, .ref (b + 0)), (1, .int a1), (2, .int a2), (3, .ref (b + 331))] := hl
  refine lv_aload_n hx hb dL_setLevel_0 rfl (lv_at hl 3 rfl) ?_
  refine lv_iconst (v := (0 : Int32)) hx hb dL_setLevel_1 (by decide) ?_
  refine lv_aload_n hx hb dL_setLevel_2 rfl (lv_at hl 0 rfl) ?_
  refine lv_iload_n hx hb dL_setLevel_3 rfl (lv_at hl 1 rfl) ?_
  refine lv_iload_n hx hb dL_setLevel_4 rfl (lv_at hl 2 rfl) ?_
  refine k_X11_setLevel F hlT h q_1293 ⟨by decide, by decide, Nat.le_of_ble_eq_true rfl, Nat.le_of_ble_eq_true rfl⟩ hW va_S.rf hl.1 (Nat.le_of_ble_eq_true rfl) dL_setLevel_5 (fun q hq ce q9 H locs hW hS hcell hv hcl => ?_) (fun v hv => nomatch hv)
  cases hq
  obtain ⟨x1, x2, ht, g1, g2⟩ := tab2 htab
  obtain ⟨e01, e02, e03, e04⟩ := exT_i g1
  obtain ⟨e11, e12, e13, e14⟩ := exT_i g2
  refine vx_catch (name := exN 2) F.2.2.2.1 [] x1 [x2] ht (fun z hz => nomatch hz) (by simp [covers, e01, e02]) (by rw [e04]; decide) (by rw [e04]; exact F.2.2.2.2.1 _ q_1099) (va_Nw.use rfl (F.2.2.2.2.2.2.1.2.1 (exN 2, exN 2) (by decide +kernel))) hcell hv hcl ?_
  rw [e03]
  refine lv_astore (lv' := [(4, .ref q9), (0, .ref (b + 0)), (1, .int a1), (2, .int a2), (3, .ref (b + 331))]) hx hb dL_setLevel_13 hl (by decide) rfl (fun ls hl => ?_)
  refine lv_iconst (v := (1 : Int32)) hx hb dL_setLevel_15 (by decide) ?_
  exact h_ret (n := G.2.2.2 14) F hr (fun x hx => nomatch hx) (by rw [gs_id]; exact hW) hS dL_setLevel_16)
set_option maxHeartbeats 4000000 in
set_option maxRecDepth 100000 in
theorem c_L_setLevel_x1 {l : Launch} (hlT : l.stackTraces = false) {G : Gt} (h13 : G.2.2.2 13 = 1) {b : Nat} {n : Nat} {a1 : Int32} {a2 : Int32} {μ : Mm} {μ' : Mm} (h : sh_X11_setLevel n a1 a2 μ = some (.inl (1, μ'))) : vx_Met l yL_setLevel (wU (Cond.codeWith yL_setLevel cL_setLevel 5 (some .int) [(0, 10, 13, 32), (0, 10, 17, 19)])) ({ frames := 8, cells := 3, slots := 18, locals := 166 } : Room) (PcW (fg G) b μ [.ref (b + 0), .int a1, .int a2, .ref (b + 331)]) (QL G b 2 none μ') (fun _ _ _ => False) 3 18 (fb b) :=
  hmet_of [.ref (b + 0), .int a1, .int a2, .ref (b + 331)] (by decide) (Nat.le_of_ble_eq_true rfl) (by
  intro p e s m args below meth c ls F hr htab hW hl
  have hx := F.1
  have hb := F.2.1
  replace hl : lv_has ls 5 [(0, .ref (b + 0)), (1, .int a1), (2, .int a2), (3, .ref (b + 331))] := hl
  refine lv_aload_n hx hb dL_setLevel_0 rfl (lv_at hl 3 rfl) ?_
  refine lv_iconst (v := (0 : Int32)) hx hb dL_setLevel_1 (by decide) ?_
  refine lv_aload_n hx hb dL_setLevel_2 rfl (lv_at hl 0 rfl) ?_
  refine lv_iload_n hx hb dL_setLevel_3 rfl (lv_at hl 1 rfl) ?_
  refine lv_iload_n hx hb dL_setLevel_4 rfl (lv_at hl 2 rfl) ?_
  refine k_X11_setLevel F hlT h q_1293 ⟨by decide, by decide, Nat.le_of_ble_eq_true rfl, Nat.le_of_ble_eq_true rfl⟩ hW va_S.rf hl.1 (Nat.le_of_ble_eq_true rfl) dL_setLevel_5 (fun q hq ce q9 H locs hW hS hcell hv hcl => ?_) (fun v hv => nomatch hv)
  cases hq
  obtain ⟨x1, x2, ht, g1, g2⟩ := tab2 htab
  obtain ⟨e01, e02, e03, e04⟩ := exT_i g1
  obtain ⟨e11, e12, e13, e14⟩ := exT_i g2
  refine vx_catch (name := exN 1) F.2.2.2.1 [x1] x2 [] ht (fun z hz => by
    simp only [List.mem_cons, List.not_mem_nil, or_false] at hz
    subst hz
    · exact Or.inr ⟨by rw [e04]; decide, exN 2, by rw [e04]; exact F.2.2.2.2.1 _ q_1099, F.2.2.2.2.2.2.1.2.2.1 (exN 1, exN 2) (by decide +kernel)⟩) (by simp [covers, e11, e12]) (by rw [e14]; decide) (by rw [e14]; exact F.2.2.2.2.1 _ q_1059) (va_Nw.use rfl (F.2.2.2.2.2.2.1.2.1 (exN 1, exN 1) (by decide +kernel))) hcell hv hcl ?_
  rw [e13]
  refine lv_astore (lv' := [(4, .ref q9), (0, .ref (b + 0)), (1, .int a1), (2, .int a2), (3, .ref (b + 331))]) hx hb dL_setLevel_17 hl (by decide) rfl (fun ls hl => ?_)
  refine lv_iconst (v := (2 : Int32)) hx hb dL_setLevel_19 (by decide) ?_
  exact h_ret (n := G.2.2.2 14) F hr (fun x hx => nomatch hx) (by rw [gs_id]; exact hW) hS dL_setLevel_20)
set_option maxHeartbeats 4000000 in
set_option maxRecDepth 100000 in
theorem c_L_setTitle_ok {l : Launch} (hlT : l.stackTraces = false) {G : Gt} (h13 : G.2.2.2 13 = 1) {b : Nat} {n : Nat} {a1 : Int32} {μ : Mm} {μ' : Mm} {v : Int32} (h : sh_X11_setTitle n a1 μ = some (.inr (v, μ'))) : vx_Met l yL_setTitle (wU (Cond.codeWith yL_setTitle cL_setTitle 4 (some .int) [(0, 9, 12, 32), (0, 9, 15, 19)])) ({ frames := 8, cells := 2, slots := 12, locals := 165 } : Room) (PcW (fg G) b μ [.ref (b + 0), .int a1, .ref (b + 331)]) (QL G b 0 (some v.toInt64) μ') (fun _ _ _ => False) 2 12 (fb b) :=
  hmet_of [.ref (b + 0), .int a1, .ref (b + 331)] (by decide) (Nat.le_of_ble_eq_true rfl) (by
  intro p e s m args below meth c ls F hr htab hW hl
  have hx := F.1
  have hb := F.2.1
  replace hl : lv_has ls 4 [(0, .ref (b + 0)), (1, .int a1), (2, .ref (b + 331))] := hl
  refine lv_aload_n hx hb dL_setTitle_0 rfl (lv_at hl 2 rfl) ?_
  refine lv_iconst (v := (0 : Int32)) hx hb dL_setTitle_1 (by decide) ?_
  refine lv_aload_n hx hb dL_setTitle_2 rfl (lv_at hl 0 rfl) ?_
  refine lv_iload_n hx hb dL_setTitle_3 rfl (lv_at hl 1 rfl) ?_
  refine k_X11_setTitle F hlT h q_1312 ⟨by decide, by decide, Nat.le_of_ble_eq_true rfl, Nat.le_of_ble_eq_true rfl⟩ hW va_S.rf hl.1 (Nat.le_of_ble_eq_true rfl) dL_setTitle_4 (fun q hq => nomatch hq) (fun v hv H locs hW hS => ?_)
  cases hv
  refine lv_i2l hx hb dL_setTitle_7 rfl ?_
  refine n_out h13 F hW hS (i64_nat _) dL_setTitle_8 (fun H locs hW hS => ?_)
  refine lv_goto (tgt := 18) hx hb dL_setTitle_9 (by decide) ?_
  refine lv_iconst (v := (0 : Int32)) hx hb dL_setTitle_18 (by decide) ?_
  exact h_ret F hr (fun x hx => (i64_nat _).trans (Option.some.inj hx)) hW hS dL_setTitle_19)
set_option maxHeartbeats 4000000 in
set_option maxRecDepth 100000 in
theorem c_L_setTitle_x2 {l : Launch} (hlT : l.stackTraces = false) {G : Gt} (h13 : G.2.2.2 13 = 1) {b : Nat} {n : Nat} {a1 : Int32} {μ : Mm} {μ' : Mm} (h : sh_X11_setTitle n a1 μ = some (.inl (2, μ'))) : vx_Met l yL_setTitle (wU (Cond.codeWith yL_setTitle cL_setTitle 4 (some .int) [(0, 9, 12, 32), (0, 9, 15, 19)])) ({ frames := 8, cells := 2, slots := 12, locals := 165 } : Room) (PcW (fg G) b μ [.ref (b + 0), .int a1, .ref (b + 331)]) (QL G b 1 none μ') (fun _ _ _ => False) 2 12 (fb b) :=
  hmet_of [.ref (b + 0), .int a1, .ref (b + 331)] (by decide) (Nat.le_of_ble_eq_true rfl) (by
  intro p e s m args below meth c ls F hr htab hW hl
  have hx := F.1
  have hb := F.2.1
  replace hl : lv_has ls 4 [(0, .ref (b + 0)), (1, .int a1), (2, .ref (b + 331))] := hl
  refine lv_aload_n hx hb dL_setTitle_0 rfl (lv_at hl 2 rfl) ?_
  refine lv_iconst (v := (0 : Int32)) hx hb dL_setTitle_1 (by decide) ?_
  refine lv_aload_n hx hb dL_setTitle_2 rfl (lv_at hl 0 rfl) ?_
  refine lv_iload_n hx hb dL_setTitle_3 rfl (lv_at hl 1 rfl) ?_
  refine k_X11_setTitle F hlT h q_1312 ⟨by decide, by decide, Nat.le_of_ble_eq_true rfl, Nat.le_of_ble_eq_true rfl⟩ hW va_S.rf hl.1 (Nat.le_of_ble_eq_true rfl) dL_setTitle_4 (fun q hq ce q9 H locs hW hS hcell hv hcl => ?_) (fun v hv => nomatch hv)
  cases hq
  obtain ⟨x1, x2, ht, g1, g2⟩ := tab2 htab
  obtain ⟨e01, e02, e03, e04⟩ := exT_i g1
  obtain ⟨e11, e12, e13, e14⟩ := exT_i g2
  refine vx_catch (name := exN 2) F.2.2.2.1 [] x1 [x2] ht (fun z hz => nomatch hz) (by simp [covers, e01, e02]) (by rw [e04]; decide) (by rw [e04]; exact F.2.2.2.2.1 _ q_1099) (va_Nw.use rfl (F.2.2.2.2.2.2.1.2.1 (exN 2, exN 2) (by decide +kernel))) hcell hv hcl ?_
  rw [e03]
  refine lv_astore_n (i := 3) (lv' := [(3, .ref q9), (0, .ref (b + 0)), (1, .int a1), (2, .ref (b + 331))]) hx hb dL_setTitle_12 rfl hl (by decide) rfl (fun ls hl => ?_)
  refine lv_iconst (v := (1 : Int32)) hx hb dL_setTitle_13 (by decide) ?_
  exact h_ret (n := G.2.2.2 14) F hr (fun x hx => nomatch hx) (by rw [gs_id]; exact hW) hS dL_setTitle_14)
set_option maxHeartbeats 4000000 in
set_option maxRecDepth 100000 in
theorem c_L_setTitle_x1 {l : Launch} (hlT : l.stackTraces = false) {G : Gt} (h13 : G.2.2.2 13 = 1) {b : Nat} {n : Nat} {a1 : Int32} {μ : Mm} {μ' : Mm} (h : sh_X11_setTitle n a1 μ = some (.inl (1, μ'))) : vx_Met l yL_setTitle (wU (Cond.codeWith yL_setTitle cL_setTitle 4 (some .int) [(0, 9, 12, 32), (0, 9, 15, 19)])) ({ frames := 8, cells := 2, slots := 12, locals := 165 } : Room) (PcW (fg G) b μ [.ref (b + 0), .int a1, .ref (b + 331)]) (QL G b 2 none μ') (fun _ _ _ => False) 2 12 (fb b) :=
  hmet_of [.ref (b + 0), .int a1, .ref (b + 331)] (by decide) (Nat.le_of_ble_eq_true rfl) (by
  intro p e s m args below meth c ls F hr htab hW hl
  have hx := F.1
  have hb := F.2.1
  replace hl : lv_has ls 4 [(0, .ref (b + 0)), (1, .int a1), (2, .ref (b + 331))] := hl
  refine lv_aload_n hx hb dL_setTitle_0 rfl (lv_at hl 2 rfl) ?_
  refine lv_iconst (v := (0 : Int32)) hx hb dL_setTitle_1 (by decide) ?_
  refine lv_aload_n hx hb dL_setTitle_2 rfl (lv_at hl 0 rfl) ?_
  refine lv_iload_n hx hb dL_setTitle_3 rfl (lv_at hl 1 rfl) ?_
  refine k_X11_setTitle F hlT h q_1312 ⟨by decide, by decide, Nat.le_of_ble_eq_true rfl, Nat.le_of_ble_eq_true rfl⟩ hW va_S.rf hl.1 (Nat.le_of_ble_eq_true rfl) dL_setTitle_4 (fun q hq ce q9 H locs hW hS hcell hv hcl => ?_) (fun v hv => nomatch hv)
  cases hq
  obtain ⟨x1, x2, ht, g1, g2⟩ := tab2 htab
  obtain ⟨e01, e02, e03, e04⟩ := exT_i g1
  obtain ⟨e11, e12, e13, e14⟩ := exT_i g2
  refine vx_catch (name := exN 1) F.2.2.2.1 [x1] x2 [] ht (fun z hz => by
    simp only [List.mem_cons, List.not_mem_nil, or_false] at hz
    subst hz
    · exact Or.inr ⟨by rw [e04]; decide, exN 2, by rw [e04]; exact F.2.2.2.2.1 _ q_1099, F.2.2.2.2.2.2.1.2.2.1 (exN 1, exN 2) (by decide +kernel)⟩) (by simp [covers, e11, e12]) (by rw [e14]; decide) (by rw [e14]; exact F.2.2.2.2.1 _ q_1059) (va_Nw.use rfl (F.2.2.2.2.2.2.1.2.1 (exN 1, exN 1) (by decide +kernel))) hcell hv hcl ?_
  rw [e13]
  refine lv_astore_n (i := 3) (lv' := [(3, .ref q9), (0, .ref (b + 0)), (1, .int a1), (2, .ref (b + 331))]) hx hb dL_setTitle_15 rfl hl (by decide) rfl (fun ls hl => ?_)
  refine lv_iconst (v := (2 : Int32)) hx hb dL_setTitle_16 (by decide) ?_
  exact h_ret (n := G.2.2.2 14) F hr (fun x hx => nomatch hx) (by rw [gs_id]; exact hW) hS dL_setTitle_17)
set_option maxHeartbeats 4000000 in
set_option maxRecDepth 100000 in
theorem c_L_setWidth_ok {l : Launch} (hlT : l.stackTraces = false) {G : Gt} (h13 : G.2.2.2 13 = 1) {b : Nat} {n : Nat} {a1 : Int32} {μ : Mm} {μ' : Mm} {v : Int32} (h : sh_X11_setWidth n a1 μ = some (.inr (v, μ'))) : vx_Met l yL_setWidth (wU (Cond.codeWith yL_setWidth cL_setWidth 4 (some .int) [(0, 9, 12, 19)])) ({ frames := 7, cells := 1, slots := 6, locals := 177 } : Room) (PcW (fg G) b μ [.ref (b + 0), .int a1, .ref (b + 331)]) (QL G b 0 (some v.toInt64) μ') (fun _ _ _ => False) 1 6 (fb b) :=
  hmet_of [.ref (b + 0), .int a1, .ref (b + 331)] (by decide) (Nat.le_of_ble_eq_true rfl) (by
  intro p e s m args below meth c ls F hr htab hW hl
  have hx := F.1
  have hb := F.2.1
  replace hl : lv_has ls 4 [(0, .ref (b + 0)), (1, .int a1), (2, .ref (b + 331))] := hl
  refine lv_aload_n hx hb dL_setWidth_0 rfl (lv_at hl 2 rfl) ?_
  refine lv_iconst (v := (0 : Int32)) hx hb dL_setWidth_1 (by decide) ?_
  refine lv_aload_n hx hb dL_setWidth_2 rfl (lv_at hl 0 rfl) ?_
  refine lv_iload_n hx hb dL_setWidth_3 rfl (lv_at hl 1 rfl) ?_
  refine k_X11_setWidth F hlT h q_1355 ⟨by decide, by decide, Nat.le_of_ble_eq_true rfl, Nat.le_of_ble_eq_true rfl⟩ hW va_S.rf hl.1 (Nat.le_of_ble_eq_true rfl) dL_setWidth_4 (fun q hq => nomatch hq) (fun v hv H locs hW hS => ?_)
  cases hv
  refine lv_i2l hx hb dL_setWidth_7 rfl ?_
  refine n_out h13 F hW hS (i64_nat _) dL_setWidth_8 (fun H locs hW hS => ?_)
  refine lv_goto (tgt := 15) hx hb dL_setWidth_9 (by decide) ?_
  refine lv_iconst (v := (0 : Int32)) hx hb dL_setWidth_15 (by decide) ?_
  exact h_ret F hr (fun x hx => (i64_nat _).trans (Option.some.inj hx)) hW hS dL_setWidth_16)
set_option maxHeartbeats 4000000 in
set_option maxRecDepth 100000 in
theorem c_L_setWidth_x1 {l : Launch} (hlT : l.stackTraces = false) {G : Gt} (h13 : G.2.2.2 13 = 1) {b : Nat} {n : Nat} {a1 : Int32} {μ : Mm} {μ' : Mm} (h : sh_X11_setWidth n a1 μ = some (.inl (1, μ'))) : vx_Met l yL_setWidth (wU (Cond.codeWith yL_setWidth cL_setWidth 4 (some .int) [(0, 9, 12, 19)])) ({ frames := 7, cells := 1, slots := 6, locals := 177 } : Room) (PcW (fg G) b μ [.ref (b + 0), .int a1, .ref (b + 331)]) (QL G b 1 none μ') (fun _ _ _ => False) 1 6 (fb b) :=
  hmet_of [.ref (b + 0), .int a1, .ref (b + 331)] (by decide) (Nat.le_of_ble_eq_true rfl) (by
  intro p e s m args below meth c ls F hr htab hW hl
  have hx := F.1
  have hb := F.2.1
  replace hl : lv_has ls 4 [(0, .ref (b + 0)), (1, .int a1), (2, .ref (b + 331))] := hl
  refine lv_aload_n hx hb dL_setWidth_0 rfl (lv_at hl 2 rfl) ?_
  refine lv_iconst (v := (0 : Int32)) hx hb dL_setWidth_1 (by decide) ?_
  refine lv_aload_n hx hb dL_setWidth_2 rfl (lv_at hl 0 rfl) ?_
  refine lv_iload_n hx hb dL_setWidth_3 rfl (lv_at hl 1 rfl) ?_
  refine k_X11_setWidth F hlT h q_1355 ⟨by decide, by decide, Nat.le_of_ble_eq_true rfl, Nat.le_of_ble_eq_true rfl⟩ hW va_S.rf hl.1 (Nat.le_of_ble_eq_true rfl) dL_setWidth_4 (fun q hq ce q9 H locs hW hS hcell hv hcl => ?_) (fun v hv => nomatch hv)
  cases hq
  obtain ⟨x1, ht, g1⟩ := tab1 htab
  obtain ⟨e01, e02, e03, e04⟩ := exT_i g1
  refine vx_catch (name := exN 1) F.2.2.2.1 [] x1 [] ht (fun z hz => nomatch hz) (by simp [covers, e01, e02]) (by rw [e04]; decide) (by rw [e04]; exact F.2.2.2.2.1 _ q_1059) (va_Nw.use rfl (F.2.2.2.2.2.2.1.2.1 (exN 1, exN 1) (by decide +kernel))) hcell hv hcl ?_
  rw [e03]
  refine lv_astore_n (i := 3) (lv' := [(3, .ref q9), (0, .ref (b + 0)), (1, .int a1), (2, .ref (b + 331))]) hx hb dL_setWidth_12 rfl hl (by decide) rfl (fun ls hl => ?_)
  refine lv_iconst (v := (1 : Int32)) hx hb dL_setWidth_13 (by decide) ?_
  exact h_ret (n := G.2.2.2 14) F hr (fun x hx => nomatch hx) (by rw [gs_id]; exact hW) hS dL_setWidth_14)
set_option maxHeartbeats 4000000 in
set_option maxRecDepth 100000 in
theorem c_L_setting_ok {l : Launch} (hlT : l.stackTraces = false) {G : Gt} (h13 : G.2.2.2 13 = 1) {b : Nat} {a1 : Int32} {μ : Mm} {v : Int32} (h : sh_X11_setting a1 μ = some (.inr v)) : vx_Met l yL_setting (wU (Cond.codeWith yL_setting cL_setting 4 (some .int) [(0, 9, 12, 19)])) ({ frames := 7, cells := 1, slots := 6, locals := 111 } : Room) (PcW (fg G) b μ [.ref (b + 0), .int a1, .ref (b + 331)]) (QL G b 0 (some v.toInt64) μ) (fun _ _ _ => False) 1 6 (fb b) :=
  hmet_of [.ref (b + 0), .int a1, .ref (b + 331)] (by decide) (Nat.le_of_ble_eq_true rfl) (by
  intro p e s m args below meth c ls F hr htab hW hl
  have hx := F.1
  have hb := F.2.1
  replace hl : lv_has ls 4 [(0, .ref (b + 0)), (1, .int a1), (2, .ref (b + 331))] := hl
  refine lv_aload_n hx hb dL_setting_0 rfl (lv_at hl 2 rfl) ?_
  refine lv_iconst (v := (0 : Int32)) hx hb dL_setting_1 (by decide) ?_
  refine lv_aload_n hx hb dL_setting_2 rfl (lv_at hl 0 rfl) ?_
  refine lv_iload_n hx hb dL_setting_3 rfl (lv_at hl 1 rfl) ?_
  refine k_X11_setting F hlT h q_1091 ⟨by decide, by decide, Nat.le_of_ble_eq_true rfl, Nat.le_of_ble_eq_true rfl⟩ hW va_S.rf hl.1 (Nat.le_of_ble_eq_true rfl) dL_setting_4 (fun q hq => nomatch hq) (fun v hv H locs hW hS => ?_)
  cases hv
  refine lv_i2l hx hb dL_setting_7 rfl ?_
  refine n_out h13 F hW hS (i64_nat _) dL_setting_8 (fun H locs hW hS => ?_)
  refine lv_goto (tgt := 15) hx hb dL_setting_9 (by decide) ?_
  refine lv_iconst (v := (0 : Int32)) hx hb dL_setting_15 (by decide) ?_
  exact h_ret F hr (fun x hx => (i64_nat _).trans (Option.some.inj hx)) hW hS dL_setting_16)
set_option maxHeartbeats 4000000 in
set_option maxRecDepth 100000 in
theorem c_L_setting_x1 {l : Launch} (hlT : l.stackTraces = false) {G : Gt} (h13 : G.2.2.2 13 = 1) {b : Nat} {a1 : Int32} {μ : Mm} (h : sh_X11_setting a1 μ = some (.inl 1)) : vx_Met l yL_setting (wU (Cond.codeWith yL_setting cL_setting 4 (some .int) [(0, 9, 12, 19)])) ({ frames := 7, cells := 1, slots := 6, locals := 111 } : Room) (PcW (fg G) b μ [.ref (b + 0), .int a1, .ref (b + 331)]) (QL G b 1 none μ) (fun _ _ _ => False) 1 6 (fb b) :=
  hmet_of [.ref (b + 0), .int a1, .ref (b + 331)] (by decide) (Nat.le_of_ble_eq_true rfl) (by
  intro p e s m args below meth c ls F hr htab hW hl
  have hx := F.1
  have hb := F.2.1
  replace hl : lv_has ls 4 [(0, .ref (b + 0)), (1, .int a1), (2, .ref (b + 331))] := hl
  refine lv_aload_n hx hb dL_setting_0 rfl (lv_at hl 2 rfl) ?_
  refine lv_iconst (v := (0 : Int32)) hx hb dL_setting_1 (by decide) ?_
  refine lv_aload_n hx hb dL_setting_2 rfl (lv_at hl 0 rfl) ?_
  refine lv_iload_n hx hb dL_setting_3 rfl (lv_at hl 1 rfl) ?_
  refine k_X11_setting F hlT h q_1091 ⟨by decide, by decide, Nat.le_of_ble_eq_true rfl, Nat.le_of_ble_eq_true rfl⟩ hW va_S.rf hl.1 (Nat.le_of_ble_eq_true rfl) dL_setting_4 (fun q hq ce q9 H locs hW hS hcell hv hcl => ?_) (fun v hv => nomatch hv)
  cases hq
  obtain ⟨x1, ht, g1⟩ := tab1 htab
  obtain ⟨e01, e02, e03, e04⟩ := exT_i g1
  refine vx_catch (name := exN 1) F.2.2.2.1 [] x1 [] ht (fun z hz => nomatch hz) (by simp [covers, e01, e02]) (by rw [e04]; decide) (by rw [e04]; exact F.2.2.2.2.1 _ q_1059) (va_Nw.use rfl (F.2.2.2.2.2.2.1.2.1 (exN 1, exN 1) (by decide +kernel))) hcell hv hcl ?_
  rw [e03]
  refine lv_astore_n (i := 3) (lv' := [(3, .ref q9), (0, .ref (b + 0)), (1, .int a1), (2, .ref (b + 331))]) hx hb dL_setting_12 rfl hl (by decide) rfl (fun ls hl => ?_)
  refine lv_iconst (v := (1 : Int32)) hx hb dL_setting_13 (by decide) ?_
  exact h_ret (n := G.2.2.2 14) F hr (fun x hx => nomatch hx) (by rw [gs_id]; exact hW) hS dL_setting_14)
set_option maxHeartbeats 4000000 in
set_option maxRecDepth 100000 in
theorem c_L_slack_ok {l : Launch} (hlT : l.stackTraces = false) {G : Gt} (h13 : G.2.2.2 13 = 1) {b : Nat} {n : Nat} {a1 : Int32} {μ : Mm} {μ' : Mm} {v : Int32} (h : sh_X11_slack n a1 μ = some (.inr (v, μ'))) : vx_Met l yL_slack (wU (Cond.codeWith yL_slack cL_slack 4 (some .int) [(0, 9, 12, 32)])) ({ frames := 8, cells := 1, slots := 6, locals := 145 } : Room) (PcW (fg G) b μ [.ref (b + 0), .int a1, .ref (b + 331)]) (QL G b 0 (some v.toInt64) μ') (fun _ _ _ => False) 1 6 (fb b) :=
  hmet_of [.ref (b + 0), .int a1, .ref (b + 331)] (by decide) (Nat.le_of_ble_eq_true rfl) (by
  intro p e s m args below meth c ls F hr htab hW hl
  have hx := F.1
  have hb := F.2.1
  replace hl : lv_has ls 4 [(0, .ref (b + 0)), (1, .int a1), (2, .ref (b + 331))] := hl
  refine lv_aload_n hx hb dL_slack_0 rfl (lv_at hl 2 rfl) ?_
  refine lv_iconst (v := (0 : Int32)) hx hb dL_slack_1 (by decide) ?_
  refine lv_aload_n hx hb dL_slack_2 rfl (lv_at hl 0 rfl) ?_
  refine lv_iload_n hx hb dL_slack_3 rfl (lv_at hl 1 rfl) ?_
  refine k_X11_slack F hlT h q_1375 ⟨by decide, by decide, Nat.le_of_ble_eq_true rfl, Nat.le_of_ble_eq_true rfl⟩ hW va_S.rf hl.1 (Nat.le_of_ble_eq_true rfl) dL_slack_4 (fun q hq => nomatch hq) (fun v hv H locs hW hS => ?_)
  cases hv
  refine lv_i2l hx hb dL_slack_7 rfl ?_
  refine n_out h13 F hW hS (i64_nat _) dL_slack_8 (fun H locs hW hS => ?_)
  refine lv_goto (tgt := 15) hx hb dL_slack_9 (by decide) ?_
  refine lv_iconst (v := (0 : Int32)) hx hb dL_slack_15 (by decide) ?_
  exact h_ret F hr (fun x hx => (i64_nat _).trans (Option.some.inj hx)) hW hS dL_slack_16)
set_option maxHeartbeats 4000000 in
set_option maxRecDepth 100000 in
theorem c_L_slack_x2 {l : Launch} (hlT : l.stackTraces = false) {G : Gt} (h13 : G.2.2.2 13 = 1) {b : Nat} {n : Nat} {a1 : Int32} {μ : Mm} {μ' : Mm} (h : sh_X11_slack n a1 μ = some (.inl (2, μ'))) : vx_Met l yL_slack (wU (Cond.codeWith yL_slack cL_slack 4 (some .int) [(0, 9, 12, 32)])) ({ frames := 8, cells := 1, slots := 6, locals := 145 } : Room) (PcW (fg G) b μ [.ref (b + 0), .int a1, .ref (b + 331)]) (QL G b 1 none μ') (fun _ _ _ => False) 1 6 (fb b) :=
  hmet_of [.ref (b + 0), .int a1, .ref (b + 331)] (by decide) (Nat.le_of_ble_eq_true rfl) (by
  intro p e s m args below meth c ls F hr htab hW hl
  have hx := F.1
  have hb := F.2.1
  replace hl : lv_has ls 4 [(0, .ref (b + 0)), (1, .int a1), (2, .ref (b + 331))] := hl
  refine lv_aload_n hx hb dL_slack_0 rfl (lv_at hl 2 rfl) ?_
  refine lv_iconst (v := (0 : Int32)) hx hb dL_slack_1 (by decide) ?_
  refine lv_aload_n hx hb dL_slack_2 rfl (lv_at hl 0 rfl) ?_
  refine lv_iload_n hx hb dL_slack_3 rfl (lv_at hl 1 rfl) ?_
  refine k_X11_slack F hlT h q_1375 ⟨by decide, by decide, Nat.le_of_ble_eq_true rfl, Nat.le_of_ble_eq_true rfl⟩ hW va_S.rf hl.1 (Nat.le_of_ble_eq_true rfl) dL_slack_4 (fun q hq ce q9 H locs hW hS hcell hv hcl => ?_) (fun v hv => nomatch hv)
  cases hq
  obtain ⟨x1, ht, g1⟩ := tab1 htab
  obtain ⟨e01, e02, e03, e04⟩ := exT_i g1
  refine vx_catch (name := exN 2) F.2.2.2.1 [] x1 [] ht (fun z hz => nomatch hz) (by simp [covers, e01, e02]) (by rw [e04]; decide) (by rw [e04]; exact F.2.2.2.2.1 _ q_1099) (va_Nw.use rfl (F.2.2.2.2.2.2.1.2.1 (exN 2, exN 2) (by decide +kernel))) hcell hv hcl ?_
  rw [e03]
  refine lv_astore_n (i := 3) (lv' := [(3, .ref q9), (0, .ref (b + 0)), (1, .int a1), (2, .ref (b + 331))]) hx hb dL_slack_12 rfl hl (by decide) rfl (fun ls hl => ?_)
  refine lv_iconst (v := (1 : Int32)) hx hb dL_slack_13 (by decide) ?_
  exact h_ret (n := G.2.2.2 14) F hr (fun x hx => nomatch hx) (by rw [gs_id]; exact hW) hS dL_slack_14)
set_option maxHeartbeats 4000000 in
set_option maxRecDepth 100000 in
theorem c_L_titleWidth_ok {l : Launch} (hlT : l.stackTraces = false) {G : Gt} (h13 : G.2.2.2 13 = 1) {b : Nat} {a1 : Int32} {μ : Mm} {v : Int32} (h : sh_X11_titleWidth a1 μ = some (.inr v)) : vx_Met l yL_titleWidth (wU (Cond.codeWith yL_titleWidth cL_titleWidth 4 (some .int) [(0, 9, 12, 32)])) ({ frames := 8, cells := 1, slots := 6, locals := 132 } : Room) (PcW (fg G) b μ [.ref (b + 0), .int a1, .ref (b + 331)]) (QL G b 0 (some v.toInt64) μ) (fun _ _ _ => False) 1 6 (fb b) :=
  hmet_of [.ref (b + 0), .int a1, .ref (b + 331)] (by decide) (Nat.le_of_ble_eq_true rfl) (by
  intro p e s m args below meth c ls F hr htab hW hl
  have hx := F.1
  have hb := F.2.1
  replace hl : lv_has ls 4 [(0, .ref (b + 0)), (1, .int a1), (2, .ref (b + 331))] := hl
  refine lv_aload_n hx hb dL_titleWidth_0 rfl (lv_at hl 2 rfl) ?_
  refine lv_iconst (v := (0 : Int32)) hx hb dL_titleWidth_1 (by decide) ?_
  refine lv_aload_n hx hb dL_titleWidth_2 rfl (lv_at hl 0 rfl) ?_
  refine lv_iload_n hx hb dL_titleWidth_3 rfl (lv_at hl 1 rfl) ?_
  refine k_X11_titleWidth F hlT h q_1129 ⟨by decide, by decide, Nat.le_of_ble_eq_true rfl, Nat.le_of_ble_eq_true rfl⟩ hW va_S.rf hl.1 (Nat.le_of_ble_eq_true rfl) dL_titleWidth_4 (fun q hq => nomatch hq) (fun v hv H locs hW hS => ?_)
  cases hv
  refine lv_i2l hx hb dL_titleWidth_7 rfl ?_
  refine n_out h13 F hW hS (i64_nat _) dL_titleWidth_8 (fun H locs hW hS => ?_)
  refine lv_goto (tgt := 15) hx hb dL_titleWidth_9 (by decide) ?_
  refine lv_iconst (v := (0 : Int32)) hx hb dL_titleWidth_15 (by decide) ?_
  exact h_ret F hr (fun x hx => (i64_nat _).trans (Option.some.inj hx)) hW hS dL_titleWidth_16)
set_option maxHeartbeats 4000000 in
set_option maxRecDepth 100000 in
theorem c_L_titleWidth_x2 {l : Launch} (hlT : l.stackTraces = false) {G : Gt} (h13 : G.2.2.2 13 = 1) {b : Nat} {a1 : Int32} {μ : Mm} (h : sh_X11_titleWidth a1 μ = some (.inl 2)) : vx_Met l yL_titleWidth (wU (Cond.codeWith yL_titleWidth cL_titleWidth 4 (some .int) [(0, 9, 12, 32)])) ({ frames := 8, cells := 1, slots := 6, locals := 132 } : Room) (PcW (fg G) b μ [.ref (b + 0), .int a1, .ref (b + 331)]) (QL G b 1 none μ) (fun _ _ _ => False) 1 6 (fb b) :=
  hmet_of [.ref (b + 0), .int a1, .ref (b + 331)] (by decide) (Nat.le_of_ble_eq_true rfl) (by
  intro p e s m args below meth c ls F hr htab hW hl
  have hx := F.1
  have hb := F.2.1
  replace hl : lv_has ls 4 [(0, .ref (b + 0)), (1, .int a1), (2, .ref (b + 331))] := hl
  refine lv_aload_n hx hb dL_titleWidth_0 rfl (lv_at hl 2 rfl) ?_
  refine lv_iconst (v := (0 : Int32)) hx hb dL_titleWidth_1 (by decide) ?_
  refine lv_aload_n hx hb dL_titleWidth_2 rfl (lv_at hl 0 rfl) ?_
  refine lv_iload_n hx hb dL_titleWidth_3 rfl (lv_at hl 1 rfl) ?_
  refine k_X11_titleWidth F hlT h q_1129 ⟨by decide, by decide, Nat.le_of_ble_eq_true rfl, Nat.le_of_ble_eq_true rfl⟩ hW va_S.rf hl.1 (Nat.le_of_ble_eq_true rfl) dL_titleWidth_4 (fun q hq ce q9 H locs hW hS hcell hv hcl => ?_) (fun v hv => nomatch hv)
  cases hq
  obtain ⟨x1, ht, g1⟩ := tab1 htab
  obtain ⟨e01, e02, e03, e04⟩ := exT_i g1
  refine vx_catch (name := exN 2) F.2.2.2.1 [] x1 [] ht (fun z hz => nomatch hz) (by simp [covers, e01, e02]) (by rw [e04]; decide) (by rw [e04]; exact F.2.2.2.2.1 _ q_1099) (va_Nw.use rfl (F.2.2.2.2.2.2.1.2.1 (exN 2, exN 2) (by decide +kernel))) hcell hv hcl ?_
  rw [e03]
  refine lv_astore_n (i := 3) (lv' := [(3, .ref q9), (0, .ref (b + 0)), (1, .int a1), (2, .ref (b + 331))]) hx hb dL_titleWidth_12 rfl hl (by decide) rfl (fun ls hl => ?_)
  refine lv_iconst (v := (1 : Int32)) hx hb dL_titleWidth_13 (by decide) ?_
  exact h_ret (n := G.2.2.2 14) F hr (fun x hx => nomatch hx) (by rw [gs_id]; exact hW) hS dL_titleWidth_14)
set_option maxHeartbeats 4000000 in
set_option maxRecDepth 100000 in
theorem c_L_truncate_ok {l : Launch} (hlT : l.stackTraces = false) {G : Gt} (h13 : G.2.2.2 13 = 1) {b : Nat} {a1 : Int32} {μ : Mm} {μ' : Mm} (h : sh_X11_truncate a1 μ = some (.inr μ')) : vx_Met l yL_truncate (wU (Cond.codeWith yL_truncate cL_truncate 3 (some .int) [(0, 5, 8, 19)])) ({ frames := 7, cells := 1, slots := 6, locals := 111 } : Room) (PcW (fg G) b μ [.ref (b + 0), .int a1]) (QL G b 0 none μ') (fun _ _ _ => False) 1 6 (fb b) :=
  hmet_of [.ref (b + 0), .int a1] (by decide) (Nat.le_of_ble_eq_true rfl) (by
  intro p e s m args below meth c ls F hr htab hW hl
  have hx := F.1
  have hb := F.2.1
  replace hl : lv_has ls 3 [(0, .ref (b + 0)), (1, .int a1)] := hl
  refine lv_aload_n hx hb dL_truncate_0 rfl (lv_at hl 0 rfl) ?_
  refine lv_iload_n hx hb dL_truncate_1 rfl (lv_at hl 1 rfl) ?_
  refine k_X11_truncate F hlT h q_1060 ⟨by decide, by decide, Nat.le_of_ble_eq_true rfl, Nat.le_of_ble_eq_true rfl⟩ hW va_S.rf hl.1 (Nat.le_of_ble_eq_true rfl) dL_truncate_2 (fun q hq => nomatch hq) (fun v hv H locs hW hS => ?_)
  cases hv
  refine lv_goto (tgt := 11) hx hb dL_truncate_5 (by decide) ?_
  refine lv_iconst (v := (0 : Int32)) hx hb dL_truncate_11 (by decide) ?_
  exact h_ret (n := G.2.2.2 14) F hr (fun x hx => nomatch hx) (by rw [gs_id]; exact hW) hS dL_truncate_12)
set_option maxHeartbeats 4000000 in
set_option maxRecDepth 100000 in
theorem c_L_truncate_x1 {l : Launch} (hlT : l.stackTraces = false) {G : Gt} (h13 : G.2.2.2 13 = 1) {b : Nat} {a1 : Int32} {μ : Mm} {μ' : Mm} (h : sh_X11_truncate a1 μ = some (.inl (1, μ'))) : vx_Met l yL_truncate (wU (Cond.codeWith yL_truncate cL_truncate 3 (some .int) [(0, 5, 8, 19)])) ({ frames := 7, cells := 1, slots := 6, locals := 111 } : Room) (PcW (fg G) b μ [.ref (b + 0), .int a1]) (QL G b 1 none μ') (fun _ _ _ => False) 1 6 (fb b) :=
  hmet_of [.ref (b + 0), .int a1] (by decide) (Nat.le_of_ble_eq_true rfl) (by
  intro p e s m args below meth c ls F hr htab hW hl
  have hx := F.1
  have hb := F.2.1
  replace hl : lv_has ls 3 [(0, .ref (b + 0)), (1, .int a1)] := hl
  refine lv_aload_n hx hb dL_truncate_0 rfl (lv_at hl 0 rfl) ?_
  refine lv_iload_n hx hb dL_truncate_1 rfl (lv_at hl 1 rfl) ?_
  refine k_X11_truncate F hlT h q_1060 ⟨by decide, by decide, Nat.le_of_ble_eq_true rfl, Nat.le_of_ble_eq_true rfl⟩ hW va_S.rf hl.1 (Nat.le_of_ble_eq_true rfl) dL_truncate_2 (fun q hq ce q9 H locs hW hS hcell hv hcl => ?_) (fun v hv => nomatch hv)
  cases hq
  obtain ⟨x1, ht, g1⟩ := tab1 htab
  obtain ⟨e01, e02, e03, e04⟩ := exT_i g1
  refine vx_catch (name := exN 1) F.2.2.2.1 [] x1 [] ht (fun z hz => nomatch hz) (by simp [covers, e01, e02]) (by rw [e04]; decide) (by rw [e04]; exact F.2.2.2.2.1 _ q_1059) (va_Nw.use rfl (F.2.2.2.2.2.2.1.2.1 (exN 1, exN 1) (by decide +kernel))) hcell hv hcl ?_
  rw [e03]
  refine lv_astore_n (i := 2) (lv' := [(2, .ref q9), (0, .ref (b + 0)), (1, .int a1)]) hx hb dL_truncate_8 rfl hl (by decide) rfl (fun ls hl => ?_)
  refine lv_iconst (v := (1 : Int32)) hx hb dL_truncate_9 (by decide) ?_
  exact h_ret (n := G.2.2.2 14) F hr (fun x hx => nomatch hx) (by rw [gs_id]; exact hW) hS dL_truncate_10)
set_option maxHeartbeats 4000000 in
set_option maxRecDepth 100000 in
theorem c_L_undo_ok {l : Launch} (hlT : l.stackTraces = false) {G : Gt} (h13 : G.2.2.2 13 = 1) {b : Nat} {n : Nat} {μ : Mm} {μ' : Mm} {v : Int32} (h : sh_X11_undo n μ = some (.inr (v, μ'))) : vx_Met l yL_undo (wU (Cond.codeWith yL_undo cL_undo 3 (some .int) [(0, 8, 11, 13)])) ({ frames := 7, cells := 1, slots := 6, locals := 164 } : Room) (PcW (fg G) b μ [.ref (b + 0), .ref (b + 331)]) (QL G b 0 (some v.toInt64) μ') (fun _ _ _ => False) 1 6 (fb b) :=
  hmet_of [.ref (b + 0), .ref (b + 331)] (by decide) (Nat.le_of_ble_eq_true rfl) (by
  intro p e s m args below meth c ls F hr htab hW hl
  have hx := F.1
  have hb := F.2.1
  replace hl : lv_has ls 3 [(0, .ref (b + 0)), (1, .ref (b + 331))] := hl
  refine lv_aload_n hx hb dL_undo_0 rfl (lv_at hl 1 rfl) ?_
  refine lv_iconst (v := (0 : Int32)) hx hb dL_undo_1 (by decide) ?_
  refine lv_aload_n hx hb dL_undo_2 rfl (lv_at hl 0 rfl) ?_
  refine k_X11_undo F hlT h q_1436 ⟨by decide, by decide, Nat.le_of_ble_eq_true rfl, Nat.le_of_ble_eq_true rfl⟩ hW va_S.rf hl.1 (Nat.le_of_ble_eq_true rfl) dL_undo_3 (fun q hq => nomatch hq) (fun v hv H locs hW hS => ?_)
  cases hv
  refine lv_i2l hx hb dL_undo_6 rfl ?_
  refine n_out h13 F hW hS (i64_nat _) dL_undo_7 (fun H locs hW hS => ?_)
  refine lv_goto (tgt := 14) hx hb dL_undo_8 (by decide) ?_
  refine lv_iconst (v := (0 : Int32)) hx hb dL_undo_14 (by decide) ?_
  exact h_ret F hr (fun x hx => (i64_nat _).trans (Option.some.inj hx)) hW hS dL_undo_15)
set_option maxHeartbeats 4000000 in
set_option maxRecDepth 100000 in
theorem c_L_undo_x0 {l : Launch} (hlT : l.stackTraces = false) {G : Gt} (h13 : G.2.2.2 13 = 1) {b : Nat} {n : Nat} {μ : Mm} {μ' : Mm} (h : sh_X11_undo n μ = some (.inl (0, μ'))) : vx_Met l yL_undo (wU (Cond.codeWith yL_undo cL_undo 3 (some .int) [(0, 8, 11, 13)])) ({ frames := 7, cells := 1, slots := 6, locals := 164 } : Room) (PcW (fg G) b μ [.ref (b + 0), .ref (b + 331)]) (QL G b 1 none μ') (fun _ _ _ => False) 1 6 (fb b) :=
  hmet_of [.ref (b + 0), .ref (b + 331)] (by decide) (Nat.le_of_ble_eq_true rfl) (by
  intro p e s m args below meth c ls F hr htab hW hl
  have hx := F.1
  have hb := F.2.1
  replace hl : lv_has ls 3 [(0, .ref (b + 0)), (1, .ref (b + 331))] := hl
  refine lv_aload_n hx hb dL_undo_0 rfl (lv_at hl 1 rfl) ?_
  refine lv_iconst (v := (0 : Int32)) hx hb dL_undo_1 (by decide) ?_
  refine lv_aload_n hx hb dL_undo_2 rfl (lv_at hl 0 rfl) ?_
  refine k_X11_undo F hlT h q_1436 ⟨by decide, by decide, Nat.le_of_ble_eq_true rfl, Nat.le_of_ble_eq_true rfl⟩ hW va_S.rf hl.1 (Nat.le_of_ble_eq_true rfl) dL_undo_3 (fun q hq ce q9 H locs hW hS hcell hv hcl => ?_) (fun v hv => nomatch hv)
  cases hq
  obtain ⟨x1, ht, g1⟩ := tab1 htab
  obtain ⟨e01, e02, e03, e04⟩ := exT_i g1
  refine vx_catch (name := exN 0) F.2.2.2.1 [] x1 [] ht (fun z hz => nomatch hz) (by simp [covers, e01, e02]) (by rw [e04]; decide) (by rw [e04]; exact F.2.2.2.2.1 _ q_979) (va_Nw.use rfl (F.2.2.2.2.2.2.1.2.1 (exN 0, exN 0) (by decide +kernel))) hcell hv hcl ?_
  rw [e03]
  refine lv_astore_n (i := 2) (lv' := [(2, .ref q9), (0, .ref (b + 0)), (1, .ref (b + 331))]) hx hb dL_undo_11 rfl hl (by decide) rfl (fun ls hl => ?_)
  refine lv_iconst (v := (1 : Int32)) hx hb dL_undo_12 (by decide) ?_
  exact h_ret (n := G.2.2.2 14) F hr (fun x hx => nomatch hx) (by rw [gs_id]; exact hW) hS dL_undo_13)
set_option maxHeartbeats 4000000 in
set_option maxRecDepth 100000 in
theorem c_L_wordSections_ok {l : Launch} (hlT : l.stackTraces = false) {G : Gt} (h13 : G.2.2.2 13 = 1) {b : Nat} {n : Nat} {a1 : Int32} {μ : Mm} {μ' : Mm} {v : Int32} (h : sh_X11_wordSections n a1 μ = some (.inr (v, μ'))) : vx_Met l yL_wordSections (wU (Cond.codeWith yL_wordSections cL_wordSections 4 (some .int) [(0, 9, 12, 32)])) ({ frames := 7, cells := 1, slots := 6, locals := 139 } : Room) (PcW (fg G) b μ [.ref (b + 0), .int a1, .ref (b + 331)]) (QL G b 0 (some v.toInt64) μ') (fun _ _ _ => False) 1 6 (fb b) :=
  hmet_of [.ref (b + 0), .int a1, .ref (b + 331)] (by decide) (Nat.le_of_ble_eq_true rfl) (by
  intro p e s m args below meth c ls F hr htab hW hl
  have hx := F.1
  have hb := F.2.1
  replace hl : lv_has ls 4 [(0, .ref (b + 0)), (1, .int a1), (2, .ref (b + 331))] := hl
  refine lv_aload_n hx hb dL_wordSections_0 rfl (lv_at hl 2 rfl) ?_
  refine lv_iconst (v := (0 : Int32)) hx hb dL_wordSections_1 (by decide) ?_
  refine lv_aload_n hx hb dL_wordSections_2 rfl (lv_at hl 0 rfl) ?_
  refine lv_iload_n hx hb dL_wordSections_3 rfl (lv_at hl 1 rfl) ?_
  refine k_X11_wordSections F hlT h q_1273 ⟨by decide, by decide, Nat.le_of_ble_eq_true rfl, Nat.le_of_ble_eq_true rfl⟩ hW va_S.rf hl.1 (Nat.le_of_ble_eq_true rfl) dL_wordSections_4 (fun q hq => nomatch hq) (fun v hv H locs hW hS => ?_)
  cases hv
  refine lv_i2l hx hb dL_wordSections_7 rfl ?_
  refine n_out h13 F hW hS (i64_nat _) dL_wordSections_8 (fun H locs hW hS => ?_)
  refine lv_goto (tgt := 15) hx hb dL_wordSections_9 (by decide) ?_
  refine lv_iconst (v := (0 : Int32)) hx hb dL_wordSections_15 (by decide) ?_
  exact h_ret F hr (fun x hx => (i64_nat _).trans (Option.some.inj hx)) hW hS dL_wordSections_16)
set_option maxHeartbeats 4000000 in
set_option maxRecDepth 100000 in
theorem c_L_wordSections_x2 {l : Launch} (hlT : l.stackTraces = false) {G : Gt} (h13 : G.2.2.2 13 = 1) {b : Nat} {n : Nat} {a1 : Int32} {μ : Mm} {μ' : Mm} (h : sh_X11_wordSections n a1 μ = some (.inl (2, μ'))) : vx_Met l yL_wordSections (wU (Cond.codeWith yL_wordSections cL_wordSections 4 (some .int) [(0, 9, 12, 32)])) ({ frames := 7, cells := 1, slots := 6, locals := 139 } : Room) (PcW (fg G) b μ [.ref (b + 0), .int a1, .ref (b + 331)]) (QL G b 1 none μ') (fun _ _ _ => False) 1 6 (fb b) :=
  hmet_of [.ref (b + 0), .int a1, .ref (b + 331)] (by decide) (Nat.le_of_ble_eq_true rfl) (by
  intro p e s m args below meth c ls F hr htab hW hl
  have hx := F.1
  have hb := F.2.1
  replace hl : lv_has ls 4 [(0, .ref (b + 0)), (1, .int a1), (2, .ref (b + 331))] := hl
  refine lv_aload_n hx hb dL_wordSections_0 rfl (lv_at hl 2 rfl) ?_
  refine lv_iconst (v := (0 : Int32)) hx hb dL_wordSections_1 (by decide) ?_
  refine lv_aload_n hx hb dL_wordSections_2 rfl (lv_at hl 0 rfl) ?_
  refine lv_iload_n hx hb dL_wordSections_3 rfl (lv_at hl 1 rfl) ?_
  refine k_X11_wordSections F hlT h q_1273 ⟨by decide, by decide, Nat.le_of_ble_eq_true rfl, Nat.le_of_ble_eq_true rfl⟩ hW va_S.rf hl.1 (Nat.le_of_ble_eq_true rfl) dL_wordSections_4 (fun q hq ce q9 H locs hW hS hcell hv hcl => ?_) (fun v hv => nomatch hv)
  cases hq
  obtain ⟨x1, ht, g1⟩ := tab1 htab
  obtain ⟨e01, e02, e03, e04⟩ := exT_i g1
  refine vx_catch (name := exN 2) F.2.2.2.1 [] x1 [] ht (fun z hz => nomatch hz) (by simp [covers, e01, e02]) (by rw [e04]; decide) (by rw [e04]; exact F.2.2.2.2.1 _ q_1099) (va_Nw.use rfl (F.2.2.2.2.2.2.1.2.1 (exN 2, exN 2) (by decide +kernel))) hcell hv hcl ?_
  rw [e03]
  refine lv_astore_n (i := 3) (lv' := [(3, .ref q9), (0, .ref (b + 0)), (1, .int a1), (2, .ref (b + 331))]) hx hb dL_wordSections_12 rfl hl (by decide) rfl (fun ls hl => ?_)
  refine lv_iconst (v := (1 : Int32)) hx hb dL_wordSections_13 (by decide) ?_
  exact h_ret (n := G.2.2.2 14) F hr (fun x hx => nomatch hx) (by rw [gs_id]; exact hW) hS dL_wordSections_14)
set_option maxHeartbeats 4000000 in
set_option maxRecDepth 100000 in
theorem c_L_writeLine_ok {l : Launch} (hlT : l.stackTraces = false) {G : Gt} (h13 : G.2.2.2 13 = 1) {b : Nat} {n : Nat} {a1 : Int32} {μ : Mm} {μ' : Mm} {v : Int32} (h : sh_X11_writeLine n a1 μ = some (.inr (v, μ'))) : vx_Met l yL_writeLine (wU (Cond.codeWith yL_writeLine cL_writeLine 4 (some .int) [(0, 9, 12, 32)])) ({ frames := 8, cells := 1, slots := 6, locals := 142 } : Room) (PcW (fg G) b μ [.ref (b + 0), .int a1, .ref (b + 331)]) (QL G b 0 (some v.toInt64) μ') (fun _ _ _ => False) 1 6 (fb b) :=
  hmet_of [.ref (b + 0), .int a1, .ref (b + 331)] (by decide) (Nat.le_of_ble_eq_true rfl) (by
  intro p e s m args below meth c ls F hr htab hW hl
  have hx := F.1
  have hb := F.2.1
  replace hl : lv_has ls 4 [(0, .ref (b + 0)), (1, .int a1), (2, .ref (b + 331))] := hl
  refine lv_aload_n hx hb dL_writeLine_0 rfl (lv_at hl 2 rfl) ?_
  refine lv_iconst (v := (0 : Int32)) hx hb dL_writeLine_1 (by decide) ?_
  refine lv_aload_n hx hb dL_writeLine_2 rfl (lv_at hl 0 rfl) ?_
  refine lv_iload_n hx hb dL_writeLine_3 rfl (lv_at hl 1 rfl) ?_
  refine k_X11_writeLine F hlT h q_1444 ⟨by decide, by decide, Nat.le_of_ble_eq_true rfl, Nat.le_of_ble_eq_true rfl⟩ hW va_S.rf hl.1 (Nat.le_of_ble_eq_true rfl) dL_writeLine_4 (fun q hq => nomatch hq) (fun v hv H locs hW hS => ?_)
  cases hv
  refine lv_i2l hx hb dL_writeLine_7 rfl ?_
  refine n_out h13 F hW hS (i64_nat _) dL_writeLine_8 (fun H locs hW hS => ?_)
  refine lv_goto (tgt := 15) hx hb dL_writeLine_9 (by decide) ?_
  refine lv_iconst (v := (0 : Int32)) hx hb dL_writeLine_15 (by decide) ?_
  exact h_ret F hr (fun x hx => (i64_nat _).trans (Option.some.inj hx)) hW hS dL_writeLine_16)
set_option maxHeartbeats 4000000 in
set_option maxRecDepth 100000 in
theorem c_L_writeLine_x2 {l : Launch} (hlT : l.stackTraces = false) {G : Gt} (h13 : G.2.2.2 13 = 1) {b : Nat} {n : Nat} {a1 : Int32} {μ : Mm} {μ' : Mm} (h : sh_X11_writeLine n a1 μ = some (.inl (2, μ'))) : vx_Met l yL_writeLine (wU (Cond.codeWith yL_writeLine cL_writeLine 4 (some .int) [(0, 9, 12, 32)])) ({ frames := 8, cells := 1, slots := 6, locals := 142 } : Room) (PcW (fg G) b μ [.ref (b + 0), .int a1, .ref (b + 331)]) (QL G b 1 none μ') (fun _ _ _ => False) 1 6 (fb b) :=
  hmet_of [.ref (b + 0), .int a1, .ref (b + 331)] (by decide) (Nat.le_of_ble_eq_true rfl) (by
  intro p e s m args below meth c ls F hr htab hW hl
  have hx := F.1
  have hb := F.2.1
  replace hl : lv_has ls 4 [(0, .ref (b + 0)), (1, .int a1), (2, .ref (b + 331))] := hl
  refine lv_aload_n hx hb dL_writeLine_0 rfl (lv_at hl 2 rfl) ?_
  refine lv_iconst (v := (0 : Int32)) hx hb dL_writeLine_1 (by decide) ?_
  refine lv_aload_n hx hb dL_writeLine_2 rfl (lv_at hl 0 rfl) ?_
  refine lv_iload_n hx hb dL_writeLine_3 rfl (lv_at hl 1 rfl) ?_
  refine k_X11_writeLine F hlT h q_1444 ⟨by decide, by decide, Nat.le_of_ble_eq_true rfl, Nat.le_of_ble_eq_true rfl⟩ hW va_S.rf hl.1 (Nat.le_of_ble_eq_true rfl) dL_writeLine_4 (fun q hq ce q9 H locs hW hS hcell hv hcl => ?_) (fun v hv => nomatch hv)
  cases hq
  obtain ⟨x1, ht, g1⟩ := tab1 htab
  obtain ⟨e01, e02, e03, e04⟩ := exT_i g1
  refine vx_catch (name := exN 2) F.2.2.2.1 [] x1 [] ht (fun z hz => nomatch hz) (by simp [covers, e01, e02]) (by rw [e04]; decide) (by rw [e04]; exact F.2.2.2.2.1 _ q_1099) (va_Nw.use rfl (F.2.2.2.2.2.2.1.2.1 (exN 2, exN 2) (by decide +kernel))) hcell hv hcl ?_
  rw [e03]
  refine lv_astore_n (i := 3) (lv' := [(3, .ref q9), (0, .ref (b + 0)), (1, .int a1), (2, .ref (b + 331))]) hx hb dL_writeLine_12 rfl hl (by decide) rfl (fun ls hl => ?_)
  refine lv_iconst (v := (1 : Int32)) hx hb dL_writeLine_13 (by decide) ?_
  exact h_ret (n := G.2.2.2 14) F hr (fun x hx => nomatch hx) (by rw [gs_id]; exact hW) hS dL_writeLine_14)
end HELPS
