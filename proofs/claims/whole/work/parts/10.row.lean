section G10
variable {p : Program} {l : Launch} {e : Env} {R : Room} {s : State} {m : MethodId} {args : Array Value} {below : List Frame} {meth : Method} {c : Code} {H : Heap} {locs : List Loc} {cells slots : Nat} {Q : State → Prop}
variable {cc : ByteArray} {pc : Nat} {ls : Array Slot} {rest : List Value} {G : Gt} {b : Nat}

set_option maxHeartbeats 4000000 in
set_option maxRecDepth 100000 in
theorem wk_X9_take {t : Nat} {a1 : Nat} {μ : Mm} {out : Mm} (F : FX G b RX9 cX9_take 2 p s m args meth c) (hr : meth.sig.returnType = none) (ht : okWR t) (ha1 : okWR a1) (h : sh_X9_take t a1 μ = some out) (hW : WH G b μ H) (hS : va_S (fb b) s.heap H locs) (hl : lv_has ls 2 [(0, .ref (b + t)), (1, .ref (b + a1))]) : W p l e ({ frames := 1, cells := 0, slots := 0, locals := 48 } : Room) s m args below meth c H locs 0 0 (MQ below (QW G b out none) args s 0 0 (fb b)) (F0 m 0 ls []) := by
  have hx := F.1
  have hb := F.2.1
  unfold sh_X9_take at h
  refine lv_aload_n hx hb dX9_take_0 rfl (lv_at hl 1 rfl) ?_
  refine fl_get9 (v := .ref (b + (a1 + 1))) (ha1).1 F hW 0 (by decide) q_66 rfl rfl dX9_take_1 ?_
  refine lv_iconst (v := (0 : Int32)) hx hb dX9_take_4 (by decide) ?_
  refine lv_aload_n hx hb dX9_take_5 rfl (lv_at hl 0 rfl) ?_
  refine fl_get9 (v := .ref (b + (t + 1))) (ht).1 F hW 0 (by decide) q_66 rfl rfl dX9_take_6 ?_
  refine lv_iconst (v := (0 : Int32)) hx hb dX9_take_9 (by decide) ?_
  refine lv_aload_n hx hb dX9_take_10 rfl (lv_at hl 0 rfl) ?_
  refine fl_get9 (v := .ref (b + (t + 1))) (ht).1 F hW 0 (by decide) q_66 rfl rfl dX9_take_11 ?_
  refine fl_alenJ (ht).2 F hW dX9_take_14 ?_
  refine lv_aload_n hx hb dX9_take_15 rfl (lv_at hl 1 rfl) ?_
  refine fl_get9 (v := .ref (b + (a1 + 1))) (ha1).1 F hW 0 (by decide) q_66 rfl rfl dX9_take_16 ?_
  refine fl_alenJ (ha1).2 F hW dX9_take_19 ?_
  refine fl_min F hl.1 q_786 q_465 q_3 mm_min (Nat.le_of_ble_eq_true rfl) (Nat.le_of_ble_eq_true rfl) (Nat.zero_le _) (Nat.zero_le _) dX9_take_20 ?_
  obtain ⟨μ1, qμ1, h⟩ := ob h
  refine fl_copyJ (ha1).2 (ht).2 F hW hS hl.1 q_750 ac_native ac_static q_24 qμ1 (Nat.le_of_ble_eq_true rfl) (Nat.le_of_ble_eq_true rfl) dX9_take_23 (fun H locs hW hS => ?_)
  cases h
  exact r_void F hr hW hS dX9_take_26
set_option maxHeartbeats 4000000 in
set_option maxRecDepth 100000 in
theorem c_X9_take {l : Launch} {G : Gt} {b : Nat} {t : Nat} {a1 : Nat} {μ : Mm} {out : Mm} (ht : okWR t) (ha1 : okWR a1) (h : sh_X9_take t a1 μ = some out) : Met l yX9_take (wU (Cond.code yX9_take cX9_take 2 none)) ({ frames := 1, cells := 0, slots := 0, locals := 48 } : Room) (PcW G b μ [.ref (b + t), .ref (b + a1)]) (QW G b out none) 0 0 (fb b) :=
  met_of [.ref (b + t), .ref (b + a1)] (by decide) (Nat.le_of_ble_eq_true rfl) (fun F hr hW hl => wk_X9_take F hr ht ha1 h hW va_S.rf hl)
set_option maxHeartbeats 4000000 in
set_option maxRecDepth 100000 in
theorem k_X9_take {own : String} {nL : Nat} (F : FX G b own cc nL p s m args meth c) {t : Nat} {a1 : Nat} {μ : Mm} {out : Mm} (ht : okWR t) (ha1 : okWR a1) (h : sh_X9_take t a1 μ = some out) {index : Nat} (hl : Cond.methodLink own index yX9_take ∈ TBG) (hR : 1 + 1 ≤ R.frames ∧ 8 + (2 + 11) + 48 ≤ R.locals ∧ cells ≤ R.cells ∧ slots ≤ R.slots) (hW : WH G b μ H) (hS : va_S (fb b) s.heap H locs) (hsz : ls.size = nL) (hrest : (rest.map fun v => v.category).sum ≤ 8) (hdg : decode cc pc = .ok (.invokevirtual index, 3))
    (kk : ∀ (H1 : Heap) (locs1 : List Loc), WH G b out H1 → va_S (fb b) s.heap H1 locs1 → W p l e R s m args below meth c H1 locs1 cells slots Q (F0 m (pc + 3) ls (rest))) : W p l e R s m args below meth c H locs cells slots Q (F0 m pc ls (.ref (b + a1) :: .ref (b + t) :: rest)) :=
  f_callV (As := [.ref (b + a1)]) (ci := 9) (c_X9_take ht ha1 h) ⟨rfl, rfl⟩ rfl (ky_lt ht.1 (by decide)) (wF_9 ht.1) q_783 q_784 q_5 q_785 rfl ⟨by decide +kernel, by decide +kernel, (show (parseMethodDescriptor yX9_take.desc).map (fun d => d.parameters.length) = some 1 by decide +kernel)⟩ F hl hR hW hS hsz hrest rfl hdg kk
set_option maxHeartbeats 4000000 in
set_option maxRecDepth 100000 in
theorem wk_X9_at {t : Nat} {a1 : Int32} {μ : Mm} {out : Int64} (F : FX G b RX9 cX9_at 2 p s m args meth c) (hr : meth.sig.returnType = some .long) (ht : okWR t) (h : sh_X9_at t a1 μ = some out) (hW : WH G b μ H) (hS : va_S (fb b) s.heap H locs) (hl : lv_has ls 2 [(0, .ref (b + t)), (1, .int a1)]) : W p l e ({ frames := 0, cells := 0, slots := 0, locals := 0 } : Room) s m args below meth c H locs 0 0 (MQ below (QW G b μ (some (.long out))) args s 0 0 (fb b)) (F0 m 0 ls []) := by
  have hx := F.1
  have hb := F.2.1
  unfold sh_X9_at at h
  refine lv_iload_n hx hb dX9_at_0 rfl (lv_at hl 1 rfl) ?_
  refine lv_if_lt (tgt := 22) hx hb dX9_at_1 (by decide) (fun cc => ?_) (fun cc => ?_)
  · replace h := (if_pos cc).symm.trans h
    refine lv_lconst (v := (0 : Int64)) hx hb dX9_at_22 (by decide) ?_
    cases h
    exact r_long F hr hW hS dX9_at_23
  · replace h := (if_neg cc).symm.trans h
    refine lv_iload_n hx hb dX9_at_4 rfl (lv_at hl 1 rfl) ?_
    refine lv_aload_n hx hb dX9_at_5 rfl (lv_at hl 0 rfl) ?_
    refine fl_get9 (v := .ref (b + (t + 1))) (ht).1 F hW 0 (by decide) q_66 rfl rfl dX9_at_6 ?_
    refine fl_alenJ (ht).2 F hW dX9_at_9 ?_
    refine lv_icmp_ge (tgt := 22) hx hb dX9_at_10 (by decide) (fun cc => ?_) (fun cc => ?_)
    · replace h := (if_pos cc).symm.trans h
      refine lv_lconst (v := (0 : Int64)) hx hb dX9_at_22 (by decide) ?_
      cases h
      exact r_long F hr hW hS dX9_at_23
    · replace h := (if_neg cc).symm.trans h
      refine lv_aload_n hx hb dX9_at_13 rfl (lv_at hl 0 rfl) ?_
      refine fl_get9 (v := .ref (b + (t + 1))) (ht).1 F hW 0 (by decide) q_66 rfl rfl dX9_at_14 ?_
      refine lv_iload_n hx hb dX9_at_17 rfl (lv_at hl 1 rfl) ?_
      obtain ⟨v1, qv1, h⟩ := ob h
      refine fl_lald (ht).2 F hW qv1 dX9_at_18 ?_
      refine lv_goto (tgt := 23) hx hb dX9_at_19 (by decide) ?_
      cases h
      exact r_long F hr hW hS dX9_at_23
set_option maxHeartbeats 4000000 in
set_option maxRecDepth 100000 in
theorem c_X9_at {l : Launch} {G : Gt} {b : Nat} {t : Nat} {a1 : Int32} {μ : Mm} {out : Int64} (ht : okWR t) (h : sh_X9_at t a1 μ = some out) : Met l yX9_at (wU (Cond.code yX9_at cX9_at 2 (some .long))) ({ frames := 0, cells := 0, slots := 0, locals := 0 } : Room) (PcW G b μ [.ref (b + t), .int a1]) (QW G b μ (some (.long out))) 0 0 (fb b) :=
  met_of [.ref (b + t), .int a1] (by decide) (Nat.le_of_ble_eq_true rfl) (fun F hr hW hl => wk_X9_at F hr ht h hW va_S.rf hl)
set_option maxHeartbeats 4000000 in
set_option maxRecDepth 100000 in
theorem k_X9_at {own : String} {nL : Nat} (F : FX G b own cc nL p s m args meth c) {t : Nat} {a1 : Int32} {μ : Mm} {out : Int64} (ht : okWR t) (h : sh_X9_at t a1 μ = some out) {index : Nat} (hl : Cond.methodLink own index yX9_at ∈ TBG) (hR : 0 + 1 ≤ R.frames ∧ 8 + (2 + 11) + 0 ≤ R.locals ∧ cells ≤ R.cells ∧ slots ≤ R.slots) (hW : WH G b μ H) (hS : va_S (fb b) s.heap H locs) (hsz : ls.size = nL) (hrest : (rest.map fun v => v.category).sum ≤ 8) (hdg : decode cc pc = .ok (.invokevirtual index, 3))
    (kk : ∀ (H1 : Heap) (locs1 : List Loc), WH G b μ H1 → va_S (fb b) s.heap H1 locs1 → W p l e R s m args below meth c H1 locs1 cells slots Q (F0 m (pc + 3) ls (.long out :: rest))) : W p l e R s m args below meth c H locs cells slots Q (F0 m pc ls (.int a1 :: .ref (b + t) :: rest)) :=
  f_callV (As := [.int a1]) (ci := 9) (c_X9_at ht h) ⟨rfl, rfl⟩ rfl (ky_lt ht.1 (by decide)) (wF_9 ht.1) q_450 q_451 q_5 q_452 rfl ⟨by decide +kernel, by decide +kernel, (show (parseMethodDescriptor yX9_at.desc).map (fun d => d.parameters.length) = some 1 by decide +kernel)⟩ F hl hR hW hS hsz hrest rfl hdg kk
set_option maxHeartbeats 4000000 in
set_option maxRecDepth 100000 in
theorem wk_X5_at {t : Nat} {a1 : Int32} {μ : Mm} {out : Int32} (F : FX G b RX5 cX5_at 2 p s m args meth c) (hr : meth.sig.returnType = some .int) (ht : okRo t) (h : sh_X5_at t a1 μ = some out) (hW : WH G b μ H) (hS : va_S (fb b) s.heap H locs) (hl : lv_has ls 2 [(0, .ref (b + t)), (1, .int a1)]) : W p l e ({ frames := 0, cells := 0, slots := 0, locals := 0 } : Room) s m args below meth c H locs 0 0 (MQ below (QW G b μ (some (.int out))) args s 0 0 (fb b)) (F0 m 0 ls []) := by
  have hx := F.1
  have hb := F.2.1
  unfold sh_X5_at at h
  refine lv_iload_n hx hb dX5_at_0 rfl (lv_at hl 1 rfl) ?_
  refine lv_if_lt (tgt := 22) hx hb dX5_at_1 (by decide) (fun cc => ?_) (fun cc => ?_)
  · replace h := (if_pos cc).symm.trans h
    refine lv_iconst (v := (0 : Int32)) hx hb dX5_at_22 (by decide) ?_
    cases h
    exact r_int F hr hW hS dX5_at_23
  · replace h := (if_neg cc).symm.trans h
    refine lv_iload_n hx hb dX5_at_4 rfl (lv_at hl 1 rfl) ?_
    refine lv_aload_n hx hb dX5_at_5 rfl (lv_at hl 0 rfl) ?_
    refine fl_get5 (v := .ref (b + (t + 1))) (ht).1 F hW 0 (by decide) q_133 rfl rfl dX5_at_6 ?_
    refine fl_alenI (ht).2 F hW dX5_at_9 ?_
    refine lv_icmp_ge (tgt := 22) hx hb dX5_at_10 (by decide) (fun cc => ?_) (fun cc => ?_)
    · replace h := (if_pos cc).symm.trans h
      refine lv_iconst (v := (0 : Int32)) hx hb dX5_at_22 (by decide) ?_
      cases h
      exact r_int F hr hW hS dX5_at_23
    · replace h := (if_neg cc).symm.trans h
      refine lv_aload_n hx hb dX5_at_13 rfl (lv_at hl 0 rfl) ?_
      refine fl_get5 (v := .ref (b + (t + 1))) (ht).1 F hW 0 (by decide) q_133 rfl rfl dX5_at_14 ?_
      refine lv_iload_n hx hb dX5_at_17 rfl (lv_at hl 1 rfl) ?_
      obtain ⟨v1, qv1, h⟩ := ob h
      refine fl_iald (ht).2 F hW qv1 dX5_at_18 ?_
      refine lv_goto (tgt := 23) hx hb dX5_at_19 (by decide) ?_
      cases h
      exact r_int F hr hW hS dX5_at_23
set_option maxHeartbeats 4000000 in
set_option maxRecDepth 100000 in
theorem c_X5_at {l : Launch} {G : Gt} {b : Nat} {t : Nat} {a1 : Int32} {μ : Mm} {out : Int32} (ht : okRo t) (h : sh_X5_at t a1 μ = some out) : Met l yX5_at (wU (Cond.code yX5_at cX5_at 2 (some .int))) ({ frames := 0, cells := 0, slots := 0, locals := 0 } : Room) (PcW G b μ [.ref (b + t), .int a1]) (QW G b μ (some (.int out))) 0 0 (fb b) :=
  met_of [.ref (b + t), .int a1] (by decide) (Nat.le_of_ble_eq_true rfl) (fun F hr hW hl => wk_X5_at F hr ht h hW va_S.rf hl)
set_option maxHeartbeats 4000000 in
set_option maxRecDepth 100000 in
theorem k_X5_at {own : String} {nL : Nat} (F : FX G b own cc nL p s m args meth c) {t : Nat} {a1 : Int32} {μ : Mm} {out : Int32} (ht : okRo t) (h : sh_X5_at t a1 μ = some out) {index : Nat} (hl : Cond.methodLink own index yX5_at ∈ TBG) (hR : 0 + 1 ≤ R.frames ∧ 8 + (2 + 11) + 0 ≤ R.locals ∧ cells ≤ R.cells ∧ slots ≤ R.slots) (hW : WH G b μ H) (hS : va_S (fb b) s.heap H locs) (hsz : ls.size = nL) (hrest : (rest.map fun v => v.category).sum ≤ 8) (hdg : decode cc pc = .ok (.invokevirtual index, 3))
    (kk : ∀ (H1 : Heap) (locs1 : List Loc), WH G b μ H1 → va_S (fb b) s.heap H1 locs1 → W p l e R s m args below meth c H1 locs1 cells slots Q (F0 m (pc + 3) ls (.int out :: rest))) : W p l e R s m args below meth c H locs cells slots Q (F0 m pc ls (.int a1 :: .ref (b + t) :: rest)) :=
  f_callV (As := [.int a1]) (ci := 5) (c_X5_at ht h) ⟨rfl, rfl⟩ rfl (ky_lt ht.1 (by decide)) (wF_5 ht.1) q_426 q_427 q_8 q_428 rfl ⟨by decide +kernel, by decide +kernel, (show (parseMethodDescriptor yX5_at.desc).map (fun d => d.parameters.length) = some 1 by decide +kernel)⟩ F hl hR hW hS hsz hrest rfl hdg kk
set_option maxHeartbeats 4000000 in
set_option maxRecDepth 100000 in
theorem wk_X5_take {t : Nat} {a1 : Nat} {μ : Mm} {out : Mm} (F : FX G b RX5 cX5_take 2 p s m args meth c) (hr : meth.sig.returnType = none) (ht : okRo t) (ha1 : okRo a1) (h : sh_X5_take t a1 μ = some out) (hW : WH G b μ H) (hS : va_S (fb b) s.heap H locs) (hl : lv_has ls 2 [(0, .ref (b + t)), (1, .ref (b + a1))]) : W p l e ({ frames := 1, cells := 0, slots := 0, locals := 48 } : Room) s m args below meth c H locs 0 0 (MQ below (QW G b out none) args s 0 0 (fb b)) (F0 m 0 ls []) := by
  have hx := F.1
  have hb := F.2.1
  unfold sh_X5_take at h
  refine lv_aload_n hx hb dX5_take_0 rfl (lv_at hl 1 rfl) ?_
  refine fl_get5 (v := .ref (b + (a1 + 1))) (ha1).1 F hW 0 (by decide) q_133 rfl rfl dX5_take_1 ?_
  refine lv_iconst (v := (0 : Int32)) hx hb dX5_take_4 (by decide) ?_
  refine lv_aload_n hx hb dX5_take_5 rfl (lv_at hl 0 rfl) ?_
  refine fl_get5 (v := .ref (b + (t + 1))) (ht).1 F hW 0 (by decide) q_133 rfl rfl dX5_take_6 ?_
  refine lv_iconst (v := (0 : Int32)) hx hb dX5_take_9 (by decide) ?_
  refine lv_aload_n hx hb dX5_take_10 rfl (lv_at hl 0 rfl) ?_
  refine fl_get5 (v := .ref (b + (t + 1))) (ht).1 F hW 0 (by decide) q_133 rfl rfl dX5_take_11 ?_
  refine fl_alenI (ht).2 F hW dX5_take_14 ?_
  refine lv_aload_n hx hb dX5_take_15 rfl (lv_at hl 1 rfl) ?_
  refine fl_get5 (v := .ref (b + (a1 + 1))) (ha1).1 F hW 0 (by decide) q_133 rfl rfl dX5_take_16 ?_
  refine fl_alenI (ha1).2 F hW dX5_take_19 ?_
  refine fl_min F hl.1 q_781 q_465 q_3 mm_min (Nat.le_of_ble_eq_true rfl) (Nat.le_of_ble_eq_true rfl) (Nat.zero_le _) (Nat.zero_le _) dX5_take_20 ?_
  obtain ⟨μ1, qμ1, h⟩ := ob h
  refine fl_copyI (ha1).2 (ht).2 F hW hS hl.1 q_743 ac_native ac_static q_24 qμ1 (Nat.le_of_ble_eq_true rfl) (Nat.le_of_ble_eq_true rfl) dX5_take_23 (fun H locs hW hS => ?_)
  cases h
  exact r_void F hr hW hS dX5_take_26
set_option maxHeartbeats 4000000 in
set_option maxRecDepth 100000 in
theorem c_X5_take {l : Launch} {G : Gt} {b : Nat} {t : Nat} {a1 : Nat} {μ : Mm} {out : Mm} (ht : okRo t) (ha1 : okRo a1) (h : sh_X5_take t a1 μ = some out) : Met l yX5_take (wU (Cond.code yX5_take cX5_take 2 none)) ({ frames := 1, cells := 0, slots := 0, locals := 48 } : Room) (PcW G b μ [.ref (b + t), .ref (b + a1)]) (QW G b out none) 0 0 (fb b) :=
  met_of [.ref (b + t), .ref (b + a1)] (by decide) (Nat.le_of_ble_eq_true rfl) (fun F hr hW hl => wk_X5_take F hr ht ha1 h hW va_S.rf hl)
set_option maxHeartbeats 4000000 in
set_option maxRecDepth 100000 in
theorem k_X5_take {own : String} {nL : Nat} (F : FX G b own cc nL p s m args meth c) {t : Nat} {a1 : Nat} {μ : Mm} {out : Mm} (ht : okRo t) (ha1 : okRo a1) (h : sh_X5_take t a1 μ = some out) {index : Nat} (hl : Cond.methodLink own index yX5_take ∈ TBG) (hR : 1 + 1 ≤ R.frames ∧ 8 + (2 + 11) + 48 ≤ R.locals ∧ cells ≤ R.cells ∧ slots ≤ R.slots) (hW : WH G b μ H) (hS : va_S (fb b) s.heap H locs) (hsz : ls.size = nL) (hrest : (rest.map fun v => v.category).sum ≤ 8) (hdg : decode cc pc = .ok (.invokevirtual index, 3))
    (kk : ∀ (H1 : Heap) (locs1 : List Loc), WH G b out H1 → va_S (fb b) s.heap H1 locs1 → W p l e R s m args below meth c H1 locs1 cells slots Q (F0 m (pc + 3) ls (rest))) : W p l e R s m args below meth c H locs cells slots Q (F0 m pc ls (.ref (b + a1) :: .ref (b + t) :: rest)) :=
  f_callV (As := [.ref (b + a1)]) (ci := 5) (c_X5_take ht ha1 h) ⟨rfl, rfl⟩ rfl (ky_lt ht.1 (by decide)) (wF_5 ht.1) q_778 q_779 q_8 q_780 rfl ⟨by decide +kernel, by decide +kernel, (show (parseMethodDescriptor yX5_take.desc).map (fun d => d.parameters.length) = some 1 by decide +kernel)⟩ F hl hR hW hS hsz hrest rfl hdg kk
set_option maxHeartbeats 4000000 in
set_option maxRecDepth 100000 in
theorem wk_X5_add {t : Nat} {a1 : Int32} {a2 : Int32} {μ : Mm} {out : Mm} (F : FX G b RX5 cX5_add 3 p s m args meth c) (hr : meth.sig.returnType = none) (ht : okRo t) (h : sh_X5_add t a1 a2 μ = some out) (hW : WH G b μ H) (hS : va_S (fb b) s.heap H locs) (hl : lv_has ls 3 [(0, .ref (b + t)), (1, .int a1), (2, .int a2)]) : W p l e ({ frames := 0, cells := 0, slots := 0, locals := 0 } : Room) s m args below meth c H locs 0 0 (MQ below (QW G b out none) args s 0 0 (fb b)) (F0 m 0 ls []) := by
  have hx := F.1
  have hb := F.2.1
  unfold sh_X5_add at h
  refine lv_iload_n hx hb dX5_add_0 rfl (lv_at hl 1 rfl) ?_
  refine lv_if_lt (tgt := 23) hx hb dX5_add_1 (by decide) (fun cc => ?_) (fun cc => ?_)
  · replace h := (if_pos cc).symm.trans h
    cases h
    exact r_void F hr hW hS dX5_add_23
  · replace h := (if_neg cc).symm.trans h
    refine lv_iload_n hx hb dX5_add_4 rfl (lv_at hl 1 rfl) ?_
    refine lv_aload_n hx hb dX5_add_5 rfl (lv_at hl 0 rfl) ?_
    refine fl_get5 (v := .ref (b + (t + 1))) (ht).1 F hW 0 (by decide) q_133 rfl rfl dX5_add_6 ?_
    refine fl_alenI (ht).2 F hW dX5_add_9 ?_
    refine lv_icmp_ge (tgt := 23) hx hb dX5_add_10 (by decide) (fun cc => ?_) (fun cc => ?_)
    · replace h := (if_pos cc).symm.trans h
      cases h
      exact r_void F hr hW hS dX5_add_23
    · replace h := (if_neg cc).symm.trans h
      refine lv_aload_n hx hb dX5_add_13 rfl (lv_at hl 0 rfl) ?_
      refine fl_get5 (v := .ref (b + (t + 1))) (ht).1 F hW 0 (by decide) q_133 rfl rfl dX5_add_14 ?_
      refine lv_iload_n hx hb dX5_add_17 rfl (lv_at hl 1 rfl) ?_
      refine lv_dup2_11 hx hb dX5_add_18 rfl rfl ?_
      obtain ⟨v1, qv1, h⟩ := ob h
      refine fl_iald (ht).2 F hW qv1 dX5_add_19 ?_
      refine lv_iload_n hx hb dX5_add_20 rfl (lv_at hl 2 rfl) ?_
      refine lv_iadd hx hb dX5_add_21 ?_
      obtain ⟨μ2, qμ2, h⟩ := ob h
      refine fl_iast (ht).2 F hW hS qμ2 dX5_add_22 (fun H locs hW hS => ?_)
      cases h
      exact r_void F hr hW hS dX5_add_23
set_option maxHeartbeats 4000000 in
set_option maxRecDepth 100000 in
theorem c_X5_add {l : Launch} {G : Gt} {b : Nat} {t : Nat} {a1 : Int32} {a2 : Int32} {μ : Mm} {out : Mm} (ht : okRo t) (h : sh_X5_add t a1 a2 μ = some out) : Met l yX5_add (wU (Cond.code yX5_add cX5_add 3 none)) ({ frames := 0, cells := 0, slots := 0, locals := 0 } : Room) (PcW G b μ [.ref (b + t), .int a1, .int a2]) (QW G b out none) 0 0 (fb b) :=
  met_of [.ref (b + t), .int a1, .int a2] (by decide) (Nat.le_of_ble_eq_true rfl) (fun F hr hW hl => wk_X5_add F hr ht h hW va_S.rf hl)
set_option maxHeartbeats 4000000 in
set_option maxRecDepth 100000 in
theorem k_X5_add {own : String} {nL : Nat} (F : FX G b own cc nL p s m args meth c) {t : Nat} {a1 : Int32} {a2 : Int32} {μ : Mm} {out : Mm} (ht : okRo t) (h : sh_X5_add t a1 a2 μ = some out) {index : Nat} (hl : Cond.methodLink own index yX5_add ∈ TBG) (hR : 0 + 1 ≤ R.frames ∧ 8 + (3 + 11) + 0 ≤ R.locals ∧ cells ≤ R.cells ∧ slots ≤ R.slots) (hW : WH G b μ H) (hS : va_S (fb b) s.heap H locs) (hsz : ls.size = nL) (hrest : (rest.map fun v => v.category).sum ≤ 8) (hdg : decode cc pc = .ok (.invokevirtual index, 3))
    (kk : ∀ (H1 : Heap) (locs1 : List Loc), WH G b out H1 → va_S (fb b) s.heap H1 locs1 → W p l e R s m args below meth c H1 locs1 cells slots Q (F0 m (pc + 3) ls (rest))) : W p l e R s m args below meth c H locs cells slots Q (F0 m pc ls (.int a2 :: .int a1 :: .ref (b + t) :: rest)) :=
  f_callV (As := [.int a1, .int a2]) (ci := 5) (c_X5_add ht h) ⟨rfl, rfl⟩ rfl (ky_lt ht.1 (by decide)) (wF_5 ht.1) q_431 q_432 q_8 q_433 rfl ⟨by decide +kernel, by decide +kernel, (show (parseMethodDescriptor yX5_add.desc).map (fun d => d.parameters.length) = some 2 by decide +kernel)⟩ F hl hR hW hS hsz hrest rfl hdg kk
set_option maxHeartbeats 4000000 in
set_option maxRecDepth 100000 in
theorem wk_X9_letterOf {a0 : Int64} {a2 : Int32} {μ : Mm} {out : Int32} (F : FX G b RX9 cX9_letterOf 3 p s m args meth c) (hr : meth.sig.returnType = some .int) (h : sh_X9_letterOf a0 a2 μ = some out) (hW : WH G b μ H) (hS : va_S (fb b) s.heap H locs) (hl : lv_has ls 3 [(0, .long a0), (2, .int a2)]) : W p l e ({ frames := 0, cells := 0, slots := 0, locals := 0 } : Room) s m args below meth c H locs 0 0 (MQ below (QW G b μ (some (.int out))) args s 0 0 (fb b)) (F0 m 0 ls []) := by
  have hx := F.1
  have hb := F.2.1
  unfold sh_X9_letterOf at h
  refine lv_lload_n hx hb dX9_letterOf_0 rfl (lv_at hl 0 rfl) ?_
  refine lv_bipush (v := (55 : Int32)) hx hb dX9_letterOf_1 (by decide) ?_
  refine lv_iconst (v := (5 : Int32)) hx hb dX9_letterOf_3 (by decide) ?_
  refine lv_iload_n hx hb dX9_letterOf_4 rfl (lv_at hl 1 rfl) ?_
  refine lv_imul hx hb dX9_letterOf_5 ?_
  refine lv_isub hx hb dX9_letterOf_6 ?_
  refine lv_lshr hx hb dX9_letterOf_7 rfl ?_
  refine lv_l2i hx hb dX9_letterOf_8 rfl ?_
  refine lv_bipush (v := (31 : Int32)) hx hb dX9_letterOf_9 (by decide) ?_
  refine lv_iand hx hb dX9_letterOf_11 ?_
  cases h
  exact r_int F hr hW hS dX9_letterOf_12
set_option maxHeartbeats 4000000 in
set_option maxRecDepth 100000 in
theorem c_X9_letterOf {l : Launch} {G : Gt} {b : Nat} {a0 : Int64} {a2 : Int32} {μ : Mm} {out : Int32} (h : sh_X9_letterOf a0 a2 μ = some out) : Met l yX9_letterOf (wU (Cond.code yX9_letterOf cX9_letterOf 3 (some .int))) ({ frames := 0, cells := 0, slots := 0, locals := 0 } : Room) (PcW G b μ [.long a0, .int a2]) (QW G b μ (some (.int out))) 0 0 (fb b) :=
  met_of [.long a0, .int a2] (by decide) (Nat.le_of_ble_eq_true rfl) (fun F hr hW hl => wk_X9_letterOf F hr h hW va_S.rf hl)
set_option maxHeartbeats 4000000 in
set_option maxRecDepth 100000 in
theorem k_X9_letterOf {nL : Nat} (F : FX G b RX9 cc nL p s m args meth c) {a0 : Int64} {a2 : Int32} {μ : Mm} {out : Int32} (h : sh_X9_letterOf a0 a2 μ = some out) {index : Nat} (hl : Cond.methodLink RX9 index yX9_letterOf ∈ TBG) (hR : 0 + 1 ≤ R.frames ∧ 8 + (3 + 11) + 0 ≤ R.locals ∧ cells ≤ R.cells ∧ slots ≤ R.slots) (hW : WH G b μ H) (hS : va_S (fb b) s.heap H locs) (hsz : ls.size = nL) (hrest : (rest.map fun v => v.category).sum ≤ 8) (hdg : decode cc pc = .ok (.invokestatic index, 3))
    (kk : ∀ (H1 : Heap) (locs1 : List Loc), WH G b μ H1 → va_S (fb b) s.heap H1 locs1 → W p l e R s m args below meth c H1 locs1 cells slots Q (F0 m (pc + 3) ls (.int out :: rest))) : W p l e R s m args below meth c H locs cells slots Q (F0 m pc ls (.int a2 :: .long a0 :: rest)) :=
  f_callS (As := [.long a0, .int a2]) (c_X9_letterOf h) ⟨rfl, rfl⟩ q_457 q_5 q_458 rfl ⟨by decide +kernel, by decide +kernel, (show (parseMethodDescriptor yX9_letterOf.desc).map (fun d => d.parameters.length) = some 2 by decide +kernel)⟩ F hl hR hW hS hsz hrest rfl hdg kk
set_option maxHeartbeats 4000000 in
set_option maxRecDepth 100000 in
theorem k_X9_letterOf_x {own : String} {nL : Nat} (F : FX G b own cc nL p s m args meth c) {a0 : Int64} {a2 : Int32} {μ : Mm} {out : Int32} (h : sh_X9_letterOf a0 a2 μ = some out) {index : Nat} (hl : Cond.methodLink own index yX9_letterOf ∈ TBG) (hR : 0 + 1 ≤ R.frames ∧ 8 + (3 + 11) + 0 ≤ R.locals ∧ cells ≤ R.cells ∧ slots ≤ R.slots) (hW : WH G b μ H) (hS : va_S (fb b) s.heap H locs) (hsz : ls.size = nL) (hrest : (rest.map fun v => v.category).sum ≤ 8) (hdg : decode cc pc = .ok (.invokestatic index, 3))
    (kk : ∀ (H1 : Heap) (locs1 : List Loc), WH G b μ H1 → va_S (fb b) s.heap H1 locs1 → W p l e R s m args below meth c H1 locs1 cells slots Q (F0 m (pc + 3) ls (.int out :: rest))) : W p l e R s m args below meth c H locs cells slots Q (F0 m pc ls (.int a2 :: .long a0 :: rest)) :=
  f_callSx (As := [.long a0, .int a2]) (c_X9_letterOf h) ⟨rfl, rfl⟩ q_457 q_5 q_458 ⟨by decide +kernel, by decide +kernel, (show (parseMethodDescriptor yX9_letterOf.desc).map (fun d => d.parameters.length) = some 2 by decide +kernel)⟩ F hl hR hW hS hsz hrest rfl hdg kk
set_option maxHeartbeats 4000000 in
set_option maxRecDepth 100000 in
theorem wk_X9_move {t : Nat} {a1 : Int32} {a2 : Int32} {a3 : Int32} {μ : Mm} {out : Mm} (F : FX G b RX9 cX9_move 4 p s m args meth c) (hr : meth.sig.returnType = none) (ht : okWR t) (h : sh_X9_move t a1 a2 a3 μ = some out) (hW : WH G b μ H) (hS : va_S (fb b) s.heap H locs) (hl : lv_has ls 4 [(0, .ref (b + t)), (1, .int a1), (2, .int a2), (3, .int a3)]) : W p l e ({ frames := 1, cells := 0, slots := 0, locals := 48 } : Room) s m args below meth c H locs 0 0 (MQ below (QW G b out none) args s 0 0 (fb b)) (F0 m 0 ls []) := by
  have hx := F.1
  have hb := F.2.1
  unfold sh_X9_move at h
  refine lv_iload_n hx hb dX9_move_0 rfl (lv_at hl 3 rfl) ?_
  refine lv_if_le (tgt := 41) hx hb dX9_move_1 (by decide) (fun cc => ?_) (fun cc => ?_)
  · replace h := (if_pos cc).symm.trans h
    cases h
    exact r_void F hr hW hS dX9_move_41
  · replace h := (if_neg cc).symm.trans h
    refine lv_iload_n hx hb dX9_move_4 rfl (lv_at hl 1 rfl) ?_
    refine lv_if_lt (tgt := 41) hx hb dX9_move_5 (by decide) (fun cc => ?_) (fun cc => ?_)
    · replace h := (if_pos cc).symm.trans h
      cases h
      exact r_void F hr hW hS dX9_move_41
    · replace h := (if_neg cc).symm.trans h
      refine lv_iload_n hx hb dX9_move_8 rfl (lv_at hl 2 rfl) ?_
      refine lv_if_lt (tgt := 41) hx hb dX9_move_9 (by decide) (fun cc => ?_) (fun cc => ?_)
      · replace h := (if_pos cc).symm.trans h
        cases h
        exact r_void F hr hW hS dX9_move_41
      · replace h := (if_neg cc).symm.trans h
        refine lv_iload_n hx hb dX9_move_12 rfl (lv_at hl 3 rfl) ?_
        refine lv_aload_n hx hb dX9_move_13 rfl (lv_at hl 0 rfl) ?_
        refine fl_get9 (v := .ref (b + (t + 1))) (ht).1 F hW 0 (by decide) q_66 rfl rfl dX9_move_14 ?_
        refine fl_alenJ (ht).2 F hW dX9_move_17 ?_
        refine lv_iload_n hx hb dX9_move_18 rfl (lv_at hl 1 rfl) ?_
        refine lv_iload_n hx hb dX9_move_19 rfl (lv_at hl 2 rfl) ?_
        refine fl_max F hl.1 q_65 q_43 q_3 mm_max (Nat.le_of_ble_eq_true rfl) (Nat.le_of_ble_eq_true rfl) (Nat.zero_le _) (Nat.zero_le _) dX9_move_20 ?_
        refine lv_isub hx hb dX9_move_23 ?_
        refine lv_icmp_gt (tgt := 41) hx hb dX9_move_24 (by decide) (fun cc => ?_) (fun cc => ?_)
        · replace h := (if_pos cc).symm.trans h
          cases h
          exact r_void F hr hW hS dX9_move_41
        · replace h := (if_neg cc).symm.trans h
          refine lv_aload_n hx hb dX9_move_27 rfl (lv_at hl 0 rfl) ?_
          refine fl_get9 (v := .ref (b + (t + 1))) (ht).1 F hW 0 (by decide) q_66 rfl rfl dX9_move_28 ?_
          refine lv_iload_n hx hb dX9_move_31 rfl (lv_at hl 1 rfl) ?_
          refine lv_aload_n hx hb dX9_move_32 rfl (lv_at hl 0 rfl) ?_
          refine fl_get9 (v := .ref (b + (t + 1))) (ht).1 F hW 0 (by decide) q_66 rfl rfl dX9_move_33 ?_
          refine lv_iload_n hx hb dX9_move_36 rfl (lv_at hl 2 rfl) ?_
          refine lv_iload_n hx hb dX9_move_37 rfl (lv_at hl 3 rfl) ?_
          obtain ⟨μ1, qμ1, h⟩ := ob h
          refine fl_copyJ (ht).2 (ht).2 F hW hS hl.1 q_750 ac_native ac_static q_24 qμ1 (Nat.le_of_ble_eq_true rfl) (Nat.le_of_ble_eq_true rfl) dX9_move_38 (fun H locs hW hS => ?_)
          cases h
          exact r_void F hr hW hS dX9_move_41
set_option maxHeartbeats 4000000 in
set_option maxRecDepth 100000 in
theorem c_X9_move {l : Launch} {G : Gt} {b : Nat} {t : Nat} {a1 : Int32} {a2 : Int32} {a3 : Int32} {μ : Mm} {out : Mm} (ht : okWR t) (h : sh_X9_move t a1 a2 a3 μ = some out) : Met l yX9_move (wU (Cond.code yX9_move cX9_move 4 none)) ({ frames := 1, cells := 0, slots := 0, locals := 48 } : Room) (PcW G b μ [.ref (b + t), .int a1, .int a2, .int a3]) (QW G b out none) 0 0 (fb b) :=
  met_of [.ref (b + t), .int a1, .int a2, .int a3] (by decide) (Nat.le_of_ble_eq_true rfl) (fun F hr hW hl => wk_X9_move F hr ht h hW va_S.rf hl)
set_option maxHeartbeats 4000000 in
set_option maxRecDepth 100000 in
theorem k_X9_move {own : String} {nL : Nat} (F : FX G b own cc nL p s m args meth c) {t : Nat} {a1 : Int32} {a2 : Int32} {a3 : Int32} {μ : Mm} {out : Mm} (ht : okWR t) (h : sh_X9_move t a1 a2 a3 μ = some out) {index : Nat} (hl : Cond.methodLink own index yX9_move ∈ TBG) (hR : 1 + 1 ≤ R.frames ∧ 8 + (4 + 11) + 48 ≤ R.locals ∧ cells ≤ R.cells ∧ slots ≤ R.slots) (hW : WH G b μ H) (hS : va_S (fb b) s.heap H locs) (hsz : ls.size = nL) (hrest : (rest.map fun v => v.category).sum ≤ 8) (hdg : decode cc pc = .ok (.invokevirtual index, 3))
    (kk : ∀ (H1 : Heap) (locs1 : List Loc), WH G b out H1 → va_S (fb b) s.heap H1 locs1 → W p l e R s m args below meth c H1 locs1 cells slots Q (F0 m (pc + 3) ls (rest))) : W p l e R s m args below meth c H locs cells slots Q (F0 m pc ls (.int a3 :: .int a2 :: .int a1 :: .ref (b + t) :: rest)) :=
  f_callV (As := [.int a1, .int a2, .int a3]) (ci := 9) (c_X9_move ht h) ⟨rfl, rfl⟩ rfl (ky_lt ht.1 (by decide)) (wF_9 ht.1) q_747 q_748 q_5 q_749 rfl ⟨by decide +kernel, by decide +kernel, (show (parseMethodDescriptor yX9_move.desc).map (fun d => d.parameters.length) = some 3 by decide +kernel)⟩ F hl hR hW hS hsz hrest rfl hdg kk
set_option maxHeartbeats 4000000 in
set_option maxRecDepth 100000 in
theorem wk_X5_move {t : Nat} {a1 : Int32} {a2 : Int32} {a3 : Int32} {μ : Mm} {out : Mm} (F : FX G b RX5 cX5_move 4 p s m args meth c) (hr : meth.sig.returnType = none) (ht : okRo t) (h : sh_X5_move t a1 a2 a3 μ = some out) (hW : WH G b μ H) (hS : va_S (fb b) s.heap H locs) (hl : lv_has ls 4 [(0, .ref (b + t)), (1, .int a1), (2, .int a2), (3, .int a3)]) : W p l e ({ frames := 1, cells := 0, slots := 0, locals := 48 } : Room) s m args below meth c H locs 0 0 (MQ below (QW G b out none) args s 0 0 (fb b)) (F0 m 0 ls []) := by
  have hx := F.1
  have hb := F.2.1
  unfold sh_X5_move at h
  refine lv_iload_n hx hb dX5_move_0 rfl (lv_at hl 3 rfl) ?_
  refine lv_if_le (tgt := 41) hx hb dX5_move_1 (by decide) (fun cc => ?_) (fun cc => ?_)
  · replace h := (if_pos cc).symm.trans h
    cases h
    exact r_void F hr hW hS dX5_move_41
  · replace h := (if_neg cc).symm.trans h
    refine lv_iload_n hx hb dX5_move_4 rfl (lv_at hl 1 rfl) ?_
    refine lv_if_lt (tgt := 41) hx hb dX5_move_5 (by decide) (fun cc => ?_) (fun cc => ?_)
    · replace h := (if_pos cc).symm.trans h
      cases h
      exact r_void F hr hW hS dX5_move_41
    · replace h := (if_neg cc).symm.trans h
      refine lv_iload_n hx hb dX5_move_8 rfl (lv_at hl 2 rfl) ?_
      refine lv_if_lt (tgt := 41) hx hb dX5_move_9 (by decide) (fun cc => ?_) (fun cc => ?_)
      · replace h := (if_pos cc).symm.trans h
        cases h
        exact r_void F hr hW hS dX5_move_41
      · replace h := (if_neg cc).symm.trans h
        refine lv_iload_n hx hb dX5_move_12 rfl (lv_at hl 3 rfl) ?_
        refine lv_aload_n hx hb dX5_move_13 rfl (lv_at hl 0 rfl) ?_
        refine fl_get5 (v := .ref (b + (t + 1))) (ht).1 F hW 0 (by decide) q_133 rfl rfl dX5_move_14 ?_
        refine fl_alenI (ht).2 F hW dX5_move_17 ?_
        refine lv_iload_n hx hb dX5_move_18 rfl (lv_at hl 1 rfl) ?_
        refine lv_iload_n hx hb dX5_move_19 rfl (lv_at hl 2 rfl) ?_
        refine fl_max F hl.1 q_132 q_43 q_3 mm_max (Nat.le_of_ble_eq_true rfl) (Nat.le_of_ble_eq_true rfl) (Nat.zero_le _) (Nat.zero_le _) dX5_move_20 ?_
        refine lv_isub hx hb dX5_move_23 ?_
        refine lv_icmp_gt (tgt := 41) hx hb dX5_move_24 (by decide) (fun cc => ?_) (fun cc => ?_)
        · replace h := (if_pos cc).symm.trans h
          cases h
          exact r_void F hr hW hS dX5_move_41
        · replace h := (if_neg cc).symm.trans h
          refine lv_aload_n hx hb dX5_move_27 rfl (lv_at hl 0 rfl) ?_
          refine fl_get5 (v := .ref (b + (t + 1))) (ht).1 F hW 0 (by decide) q_133 rfl rfl dX5_move_28 ?_
          refine lv_iload_n hx hb dX5_move_31 rfl (lv_at hl 1 rfl) ?_
          refine lv_aload_n hx hb dX5_move_32 rfl (lv_at hl 0 rfl) ?_
          refine fl_get5 (v := .ref (b + (t + 1))) (ht).1 F hW 0 (by decide) q_133 rfl rfl dX5_move_33 ?_
          refine lv_iload_n hx hb dX5_move_36 rfl (lv_at hl 2 rfl) ?_
          refine lv_iload_n hx hb dX5_move_37 rfl (lv_at hl 3 rfl) ?_
          obtain ⟨μ1, qμ1, h⟩ := ob h
          refine fl_copyI (ht).2 (ht).2 F hW hS hl.1 q_743 ac_native ac_static q_24 qμ1 (Nat.le_of_ble_eq_true rfl) (Nat.le_of_ble_eq_true rfl) dX5_move_38 (fun H locs hW hS => ?_)
          cases h
          exact r_void F hr hW hS dX5_move_41
set_option maxHeartbeats 4000000 in
set_option maxRecDepth 100000 in
theorem c_X5_move {l : Launch} {G : Gt} {b : Nat} {t : Nat} {a1 : Int32} {a2 : Int32} {a3 : Int32} {μ : Mm} {out : Mm} (ht : okRo t) (h : sh_X5_move t a1 a2 a3 μ = some out) : Met l yX5_move (wU (Cond.code yX5_move cX5_move 4 none)) ({ frames := 1, cells := 0, slots := 0, locals := 48 } : Room) (PcW G b μ [.ref (b + t), .int a1, .int a2, .int a3]) (QW G b out none) 0 0 (fb b) :=
  met_of [.ref (b + t), .int a1, .int a2, .int a3] (by decide) (Nat.le_of_ble_eq_true rfl) (fun F hr hW hl => wk_X5_move F hr ht h hW va_S.rf hl)
set_option maxHeartbeats 4000000 in
set_option maxRecDepth 100000 in
theorem k_X5_move {own : String} {nL : Nat} (F : FX G b own cc nL p s m args meth c) {t : Nat} {a1 : Int32} {a2 : Int32} {a3 : Int32} {μ : Mm} {out : Mm} (ht : okRo t) (h : sh_X5_move t a1 a2 a3 μ = some out) {index : Nat} (hl : Cond.methodLink own index yX5_move ∈ TBG) (hR : 1 + 1 ≤ R.frames ∧ 8 + (4 + 11) + 48 ≤ R.locals ∧ cells ≤ R.cells ∧ slots ≤ R.slots) (hW : WH G b μ H) (hS : va_S (fb b) s.heap H locs) (hsz : ls.size = nL) (hrest : (rest.map fun v => v.category).sum ≤ 8) (hdg : decode cc pc = .ok (.invokevirtual index, 3))
    (kk : ∀ (H1 : Heap) (locs1 : List Loc), WH G b out H1 → va_S (fb b) s.heap H1 locs1 → W p l e R s m args below meth c H1 locs1 cells slots Q (F0 m (pc + 3) ls (rest))) : W p l e R s m args below meth c H locs cells slots Q (F0 m pc ls (.int a3 :: .int a2 :: .int a1 :: .ref (b + t) :: rest)) :=
  f_callV (As := [.int a1, .int a2, .int a3]) (ci := 5) (c_X5_move ht h) ⟨rfl, rfl⟩ rfl (ky_lt ht.1 (by decide)) (wF_5 ht.1) q_740 q_741 q_8 q_742 rfl ⟨by decide +kernel, by decide +kernel, (show (parseMethodDescriptor yX5_move.desc).map (fun d => d.parameters.length) = some 3 by decide +kernel)⟩ F hl hR hW hS hsz hrest rfl hdg kk
set_option maxHeartbeats 4000000 in
set_option maxRecDepth 100000 in
theorem wk_X9_put {t : Nat} {a1 : Int32} {a2 : Int64} {μ : Mm} {out : Mm} (F : FX G b RX9 cX9_put 4 p s m args meth c) (hr : meth.sig.returnType = none) (ht : okWR t) (h : sh_X9_put t a1 a2 μ = some out) (hW : WH G b μ H) (hS : va_S (fb b) s.heap H locs) (hl : lv_has ls 4 [(0, .ref (b + t)), (1, .int a1), (2, .long a2)]) : W p l e ({ frames := 0, cells := 0, slots := 0, locals := 0 } : Room) s m args below meth c H locs 0 0 (MQ below (QW G b out none) args s 0 0 (fb b)) (F0 m 0 ls []) := by
  have hx := F.1
  have hb := F.2.1
  unfold sh_X9_put at h
  refine lv_iload_n hx hb dX9_put_0 rfl (lv_at hl 1 rfl) ?_
  refine lv_if_lt (tgt := 20) hx hb dX9_put_1 (by decide) (fun cc => ?_) (fun cc => ?_)
  · replace h := (if_pos cc).symm.trans h
    cases h
    exact r_void F hr hW hS dX9_put_20
  · replace h := (if_neg cc).symm.trans h
    refine lv_iload_n hx hb dX9_put_4 rfl (lv_at hl 1 rfl) ?_
    refine lv_aload_n hx hb dX9_put_5 rfl (lv_at hl 0 rfl) ?_
    refine fl_get9 (v := .ref (b + (t + 1))) (ht).1 F hW 0 (by decide) q_66 rfl rfl dX9_put_6 ?_
    refine fl_alenJ (ht).2 F hW dX9_put_9 ?_
    refine lv_icmp_ge (tgt := 20) hx hb dX9_put_10 (by decide) (fun cc => ?_) (fun cc => ?_)
    · replace h := (if_pos cc).symm.trans h
      cases h
      exact r_void F hr hW hS dX9_put_20
    · replace h := (if_neg cc).symm.trans h
      refine lv_aload_n hx hb dX9_put_13 rfl (lv_at hl 0 rfl) ?_
      refine fl_get9 (v := .ref (b + (t + 1))) (ht).1 F hW 0 (by decide) q_66 rfl rfl dX9_put_14 ?_
      refine lv_iload_n hx hb dX9_put_17 rfl (lv_at hl 1 rfl) ?_
      refine lv_lload_n hx hb dX9_put_18 rfl (lv_at hl 2 rfl) ?_
      obtain ⟨μ1, qμ1, h⟩ := ob h
      refine fl_last (ht).2 F hW hS qμ1 dX9_put_19 (fun H locs hW hS => ?_)
      cases h
      exact r_void F hr hW hS dX9_put_20
set_option maxHeartbeats 4000000 in
set_option maxRecDepth 100000 in
theorem c_X9_put {l : Launch} {G : Gt} {b : Nat} {t : Nat} {a1 : Int32} {a2 : Int64} {μ : Mm} {out : Mm} (ht : okWR t) (h : sh_X9_put t a1 a2 μ = some out) : Met l yX9_put (wU (Cond.code yX9_put cX9_put 4 none)) ({ frames := 0, cells := 0, slots := 0, locals := 0 } : Room) (PcW G b μ [.ref (b + t), .int a1, .long a2]) (QW G b out none) 0 0 (fb b) :=
  met_of [.ref (b + t), .int a1, .long a2] (by decide) (Nat.le_of_ble_eq_true rfl) (fun F hr hW hl => wk_X9_put F hr ht h hW va_S.rf hl)
set_option maxHeartbeats 4000000 in
set_option maxRecDepth 100000 in
theorem k_X9_put {own : String} {nL : Nat} (F : FX G b own cc nL p s m args meth c) {t : Nat} {a1 : Int32} {a2 : Int64} {μ : Mm} {out : Mm} (ht : okWR t) (h : sh_X9_put t a1 a2 μ = some out) {index : Nat} (hl : Cond.methodLink own index yX9_put ∈ TBG) (hR : 0 + 1 ≤ R.frames ∧ 8 + (4 + 11) + 0 ≤ R.locals ∧ cells ≤ R.cells ∧ slots ≤ R.slots) (hW : WH G b μ H) (hS : va_S (fb b) s.heap H locs) (hsz : ls.size = nL) (hrest : (rest.map fun v => v.category).sum ≤ 8) (hdg : decode cc pc = .ok (.invokevirtual index, 3))
    (kk : ∀ (H1 : Heap) (locs1 : List Loc), WH G b out H1 → va_S (fb b) s.heap H1 locs1 → W p l e R s m args below meth c H1 locs1 cells slots Q (F0 m (pc + 3) ls (rest))) : W p l e R s m args below meth c H locs cells slots Q (F0 m pc ls (.long a2 :: .int a1 :: .ref (b + t) :: rest)) :=
  f_callV (As := [.int a1, .long a2]) (ci := 9) (c_X9_put ht h) ⟨rfl, rfl⟩ rfl (ky_lt ht.1 (by decide)) (wF_9 ht.1) q_728 q_729 q_5 q_730 rfl ⟨by decide +kernel, by decide +kernel, (show (parseMethodDescriptor yX9_put.desc).map (fun d => d.parameters.length) = some 2 by decide +kernel)⟩ F hl hR hW hS hsz hrest rfl hdg kk
set_option maxHeartbeats 4000000 in
set_option maxRecDepth 100000 in
theorem wk_X11_signWidth {a0 : Int32} {μ : Mm} {out : Int32} (F : FX G b RX11 cX11_signWidth 1 p s m args meth c) (hr : meth.sig.returnType = some .int) (h : sh_X11_signWidth a0 μ = some out) (hW : WH G b μ H) (hS : va_S (fb b) s.heap H locs) (hl : lv_has ls 1 [(0, .int a0)]) : W p l e ({ frames := 0, cells := 0, slots := 0, locals := 0 } : Room) s m args below meth c H locs 0 0 (MQ below (QW G b μ (some (.int out))) args s 0 0 (fb b)) (F0 m 0 ls []) := by
  have hx := F.1
  have hb := F.2.1
  unfold sh_X11_signWidth at h
  refine lv_iload_n hx hb dX11_signWidth_0 rfl (lv_at hl 0 rfl) ?_
  by_cases cs32 : a0 = (32 : Int32)
  · replace h := (if_pos cs32).symm.trans h
    rw [cs32]
    refine lv_lookup (off := 99) (tgt := 100) hx hb dX11_signWidth_1 (by decide +kernel) (by decide +kernel) (by decide) ?_
    refine lv_iconst (v := (1 : Int32)) hx hb dX11_signWidth_100 (by decide) ?_
    cases h
    exact r_int F hr hW hS dX11_signWidth_101
  replace h := (if_neg cs32).symm.trans h
  by_cases cs46 : a0 = (46 : Int32)
  · replace h := (if_pos cs46).symm.trans h
    rw [cs46]
    refine lv_lookup (off := 99) (tgt := 100) hx hb dX11_signWidth_1 (by decide +kernel) (by decide +kernel) (by decide) ?_
    refine lv_iconst (v := (1 : Int32)) hx hb dX11_signWidth_100 (by decide) ?_
    cases h
    exact r_int F hr hW hS dX11_signWidth_101
  replace h := (if_neg cs46).symm.trans h
  by_cases cs49 : a0 = (49 : Int32)
  · replace h := (if_pos cs49).symm.trans h
    rw [cs49]
    refine lv_lookup (off := 99) (tgt := 100) hx hb dX11_signWidth_1 (by decide +kernel) (by decide +kernel) (by decide) ?_
    refine lv_iconst (v := (1 : Int32)) hx hb dX11_signWidth_100 (by decide) ?_
    cases h
    exact r_int F hr hW hS dX11_signWidth_101
  replace h := (if_neg cs49).symm.trans h
  by_cases cs102 : a0 = (102 : Int32)
  · replace h := (if_pos cs102).symm.trans h
    rw [cs102]
    refine lv_lookup (off := 99) (tgt := 100) hx hb dX11_signWidth_1 (by decide +kernel) (by decide +kernel) (by decide) ?_
    refine lv_iconst (v := (1 : Int32)) hx hb dX11_signWidth_100 (by decide) ?_
    cases h
    exact r_int F hr hW hS dX11_signWidth_101
  replace h := (if_neg cs102).symm.trans h
  by_cases cs105 : a0 = (105 : Int32)
  · replace h := (if_pos cs105).symm.trans h
    rw [cs105]
    refine lv_lookup (off := 99) (tgt := 100) hx hb dX11_signWidth_1 (by decide +kernel) (by decide +kernel) (by decide) ?_
    refine lv_iconst (v := (1 : Int32)) hx hb dX11_signWidth_100 (by decide) ?_
    cases h
    exact r_int F hr hW hS dX11_signWidth_101
  replace h := (if_neg cs105).symm.trans h
  by_cases cs106 : a0 = (106 : Int32)
  · replace h := (if_pos cs106).symm.trans h
    rw [cs106]
    refine lv_lookup (off := 99) (tgt := 100) hx hb dX11_signWidth_1 (by decide +kernel) (by decide +kernel) (by decide) ?_
    refine lv_iconst (v := (1 : Int32)) hx hb dX11_signWidth_100 (by decide) ?_
    cases h
    exact r_int F hr hW hS dX11_signWidth_101
  replace h := (if_neg cs106).symm.trans h
  by_cases cs108 : a0 = (108 : Int32)
  · replace h := (if_pos cs108).symm.trans h
    rw [cs108]
    refine lv_lookup (off := 99) (tgt := 100) hx hb dX11_signWidth_1 (by decide +kernel) (by decide +kernel) (by decide) ?_
    refine lv_iconst (v := (1 : Int32)) hx hb dX11_signWidth_100 (by decide) ?_
    cases h
    exact r_int F hr hW hS dX11_signWidth_101
  replace h := (if_neg cs108).symm.trans h
  by_cases cs109 : a0 = (109 : Int32)
  · replace h := (if_pos cs109).symm.trans h
    rw [cs109]
    refine lv_lookup (off := 101) (tgt := 102) hx hb dX11_signWidth_1 (by decide +kernel) (by decide +kernel) (by decide) ?_
    refine lv_iconst (v := (3 : Int32)) hx hb dX11_signWidth_102 (by decide) ?_
    cases h
    exact r_int F hr hW hS dX11_signWidth_103
  replace h := (if_neg cs109).symm.trans h
  by_cases cs114 : a0 = (114 : Int32)
  · replace h := (if_pos cs114).symm.trans h
    rw [cs114]
    refine lv_lookup (off := 99) (tgt := 100) hx hb dX11_signWidth_1 (by decide +kernel) (by decide +kernel) (by decide) ?_
    refine lv_iconst (v := (1 : Int32)) hx hb dX11_signWidth_100 (by decide) ?_
    cases h
    exact r_int F hr hW hS dX11_signWidth_101
  replace h := (if_neg cs114).symm.trans h
  by_cases cs116 : a0 = (116 : Int32)
  · replace h := (if_pos cs116).symm.trans h
    rw [cs116]
    refine lv_lookup (off := 99) (tgt := 100) hx hb dX11_signWidth_1 (by decide +kernel) (by decide +kernel) (by decide) ?_
    refine lv_iconst (v := (1 : Int32)) hx hb dX11_signWidth_100 (by decide) ?_
    cases h
    exact r_int F hr hW hS dX11_signWidth_101
  replace h := (if_neg cs116).symm.trans h
  by_cases cs119 : a0 = (119 : Int32)
  · replace h := (if_pos cs119).symm.trans h
    rw [cs119]
    refine lv_lookup (off := 101) (tgt := 102) hx hb dX11_signWidth_1 (by decide +kernel) (by decide +kernel) (by decide) ?_
    refine lv_iconst (v := (3 : Int32)) hx hb dX11_signWidth_102 (by decide) ?_
    cases h
    exact r_int F hr hW hS dX11_signWidth_103
  replace h := (if_neg cs119).symm.trans h
  refine lv_lookup (off := 103) (tgt := 104) hx hb dX11_signWidth_1 (by decide +kernel) (t_look (l := [(32, 99), (46, 99), (49, 99), (102, 99), (105, 99), (106, 99), (108, 99), (109, 101), (114, 99), (116, 99), (119, 101)]) ?_) (by decide) ?_
  · intro a ha
    simp only [List.mem_cons, List.not_mem_nil, or_false] at ha
    rcases ha with rfl | rfl | rfl | rfl | rfl | rfl | rfl | rfl | rfl | rfl | rfl
    · exact toInt_ne cs32
    · exact toInt_ne cs46
    · exact toInt_ne cs49
    · exact toInt_ne cs102
    · exact toInt_ne cs105
    · exact toInt_ne cs106
    · exact toInt_ne cs108
    · exact toInt_ne cs109
    · exact toInt_ne cs114
    · exact toInt_ne cs116
    · exact toInt_ne cs119
  refine lv_iconst (v := (2 : Int32)) hx hb dX11_signWidth_104 (by decide) ?_
  cases h
  exact r_int F hr hW hS dX11_signWidth_105
set_option maxHeartbeats 4000000 in
set_option maxRecDepth 100000 in
theorem c_X11_signWidth {l : Launch} {G : Gt} {b : Nat} {a0 : Int32} {μ : Mm} {out : Int32} (h : sh_X11_signWidth a0 μ = some out) : Met l yX11_signWidth (wU (Cond.code yX11_signWidth cX11_signWidth 1 (some .int))) ({ frames := 0, cells := 0, slots := 0, locals := 0 } : Room) (PcW G b μ [.int a0]) (QW G b μ (some (.int out))) 0 0 (fb b) :=
  met_of [.int a0] (by decide) (Nat.le_of_ble_eq_true rfl) (fun F hr hW hl => wk_X11_signWidth F hr h hW va_S.rf hl)
set_option maxHeartbeats 4000000 in
set_option maxRecDepth 100000 in
theorem k_X11_signWidth {nL : Nat} (F : FX G b RX11 cc nL p s m args meth c) {a0 : Int32} {μ : Mm} {out : Int32} (h : sh_X11_signWidth a0 μ = some out) {index : Nat} (hl : Cond.methodLink RX11 index yX11_signWidth ∈ TBG) (hR : 0 + 1 ≤ R.frames ∧ 8 + (1 + 11) + 0 ≤ R.locals ∧ cells ≤ R.cells ∧ slots ≤ R.slots) (hW : WH G b μ H) (hS : va_S (fb b) s.heap H locs) (hsz : ls.size = nL) (hrest : (rest.map fun v => v.category).sum ≤ 8) (hdg : decode cc pc = .ok (.invokestatic index, 3))
    (kk : ∀ (H1 : Heap) (locs1 : List Loc), WH G b μ H1 → va_S (fb b) s.heap H1 locs1 → W p l e R s m args below meth c H1 locs1 cells slots Q (F0 m (pc + 3) ls (.int out :: rest))) : W p l e R s m args below meth c H locs cells slots Q (F0 m pc ls (.int a0 :: rest)) :=
  f_callS (As := [.int a0]) (c_X11_signWidth h) ⟨rfl, rfl⟩ q_439 q_1 q_440 rfl ⟨by decide +kernel, by decide +kernel, (show (parseMethodDescriptor yX11_signWidth.desc).map (fun d => d.parameters.length) = some 1 by decide +kernel)⟩ F hl hR hW hS hsz hrest rfl hdg kk
set_option maxHeartbeats 4000000 in
set_option maxRecDepth 100000 in
theorem k_X11_signWidth_n {own : String} {nL : Nat} (F : FX G b own cc nL p s m args meth c) {a0 : Int32} {μ : Mm} {out : Int32} (h : sh_X11_signWidth a0 μ = some out) {index : Nat} (hl : (own, index, yX11_signWidth, "ContentsSetter") ∈ nestL) (hR : 0 + 1 ≤ R.frames ∧ 8 + (1 + 11) + 0 ≤ R.locals ∧ cells ≤ R.cells ∧ slots ≤ R.slots) (hW : WH G b μ H) (hS : va_S (fb b) s.heap H locs) (hsz : ls.size = nL) (hrest : (rest.map fun v => v.category).sum ≤ 8) (hdg : decode cc pc = .ok (.invokestatic index, 3))
    (kk : ∀ (H1 : Heap) (locs1 : List Loc), WH G b μ H1 → va_S (fb b) s.heap H1 locs1 → W p l e R s m args below meth c H1 locs1 cells slots Q (F0 m (pc + 3) ls (.int out :: rest))) : W p l e R s m args below meth c H locs cells slots Q (F0 m pc ls (.int a0 :: rest)) :=
  f_callSN (As := [.int a0]) (c_X11_signWidth h) ⟨rfl, rfl⟩ q_439 q_1 q_440 ⟨by decide +kernel, by decide +kernel, (show (parseMethodDescriptor yX11_signWidth.desc).map (fun d => d.parameters.length) = some 1 by decide +kernel)⟩ F hl hR hW hS hsz hrest rfl hdg kk
set_option maxHeartbeats 4000000 in
set_option maxRecDepth 100000 in
theorem wk_X9_widthOf_4 {n : Nat} {a0 : Int64} {μ : Mm} {out : Int32} (F : FX G b RX9 cX9_widthOf 4 p s m args meth c) (hr : meth.sig.returnType = some .int) : ∀ (f : Nat) (x2 : Int32) (x3 : Int32) (H : Heap) (locs : List Loc) (ls : Array Slot), sh_X9_widthOf_4 n a0 μ f x2 x3 = some out → WH G b μ H → va_S (fb b) s.heap H locs → lv_has ls 4 [(0, .long a0), (2, .int x2), (3, .int x3)] → W p l e ({ frames := 1, cells := 0, slots := 0, locals := 22 } : Room) s m args below meth c H locs 0 0 (MQ below (QW G b μ (some (.int out))) args s 0 0 (fb b)) (F0 m 4 ls []) := by
  have hx := F.1
  have hb := F.2.1
  intro f
  induction f with
  | zero =>
    intro _ _ _ _ _ h
    rw [sh_X9_widthOf_4] at h
    cases h
  | succ f ih =>
    intro x2 x3  H locs ls h hW hS hl
    rw [sh_X9_widthOf_4] at h
    have hk4 := ih
    refine lv_iload_n hx hb dX9_widthOf_4 rfl (lv_at hl 2 rfl) ?_
    refine lv_bipush (v := (12 : Int32)) hx hb dX9_widthOf_5 (by decide) ?_
    refine lv_icmp_ge (tgt := 38) hx hb dX9_widthOf_7 (by decide) (fun cc => ?_) (fun cc => ?_)
    · replace h := (if_pos cc).symm.trans h
      refine lv_iload_n hx hb dX9_widthOf_38 rfl (lv_at hl 1 rfl) ?_
      cases h
      exact r_int F hr hW hS dX9_widthOf_39
    · replace h := (if_neg cc).symm.trans h
      refine lv_lload_n hx hb dX9_widthOf_10 rfl (lv_at hl 0 rfl) ?_
      refine lv_iload_n hx hb dX9_widthOf_11 rfl (lv_at hl 2 rfl) ?_
      obtain ⟨r1, qr1, h⟩ := ob h
      refine k_X9_letterOf F qr1 q_456 ⟨Nat.le_of_ble_eq_true rfl, Nat.le_of_ble_eq_true rfl, Nat.le_of_ble_eq_true rfl, Nat.le_of_ble_eq_true rfl⟩ hW hS hl.1 (Nat.le_of_ble_eq_true rfl) dX9_widthOf_12 (fun H locs hW hS => ?_)
      refine lv_if_eq (tgt := 38) hx hb dX9_widthOf_15 (by decide) (fun cc => ?_) (fun cc => ?_)
      · replace h := (if_pos cc).symm.trans h
        refine lv_iload_n hx hb dX9_widthOf_38 rfl (lv_at hl 1 rfl) ?_
        cases h
        exact r_int F hr hW hS dX9_widthOf_39
      · replace h := (if_neg cc).symm.trans h
        refine lv_iload_n hx hb dX9_widthOf_18 rfl (lv_at hl 1 rfl) ?_
        refine lv_bipush (v := (96 : Int32)) hx hb dX9_widthOf_19 (by decide) ?_
        refine lv_lload_n hx hb dX9_widthOf_21 rfl (lv_at hl 0 rfl) ?_
        refine lv_iload_n hx hb dX9_widthOf_22 rfl (lv_at hl 2 rfl) ?_
        obtain ⟨r2, qr2, h⟩ := ob h
        refine k_X9_letterOf F qr2 q_456 ⟨Nat.le_of_ble_eq_true rfl, Nat.le_of_ble_eq_true rfl, Nat.le_of_ble_eq_true rfl, Nat.le_of_ble_eq_true rfl⟩ hW hS hl.1 (Nat.le_of_ble_eq_true rfl) dX9_widthOf_23 (fun H locs hW hS => ?_)
        refine lv_iadd hx hb dX9_widthOf_26 ?_
        obtain ⟨r3, qr3, h⟩ := ob h
        refine k_X11_signWidth_n F qr3 (by decide +kernel) ⟨Nat.le_of_ble_eq_true rfl, Nat.le_of_ble_eq_true rfl, Nat.le_of_ble_eq_true rfl, Nat.le_of_ble_eq_true rfl⟩ hW hS hl.1 (Nat.le_of_ble_eq_true rfl) dX9_widthOf_27 (fun H locs hW hS => ?_)
        refine lv_iadd hx hb dX9_widthOf_30 ?_
        obtain ⟨v4, ev4⟩ : ∃ y, y = (x2 + r3) := ⟨_, rfl⟩
        have h := nm_at ev4 h
        rw [← ev4]
        refine lv_istore_n (lv' := [(2, .int v4), (0, .long a0), (3, .int x3)]) hx hb dX9_widthOf_31 rfl hl (by decide) rfl (fun ls hl => ?_)
        refine lv_iinc (v := (x3 + (1 : Int32))) (lv' := [(3, .int (x3 + (1 : Int32))), (2, .int v4), (0, .long a0)]) hx hb dX9_widthOf_32 hl (k := 2) rfl rfl (by decide) rfl (fun ls hl => ?_)
        refine lv_goto (tgt := 4) hx hb dX9_widthOf_35 (by decide) ?_
        exact hk4 _ _ _ _ _ h hW hS (lv_sub hl [2, 1, 0] rfl)
set_option maxHeartbeats 4000000 in
set_option maxRecDepth 100000 in
theorem wk_X9_widthOf {n : Nat} {a0 : Int64} {μ : Mm} {out : Int32} (F : FX G b RX9 cX9_widthOf 4 p s m args meth c) (hr : meth.sig.returnType = some .int) (h : sh_X9_widthOf n a0 μ = some out) (hW : WH G b μ H) (hS : va_S (fb b) s.heap H locs) (hl : lv_has ls 4 [(0, .long a0)]) : W p l e ({ frames := 1, cells := 0, slots := 0, locals := 22 } : Room) s m args below meth c H locs 0 0 (MQ below (QW G b μ (some (.int out))) args s 0 0 (fb b)) (F0 m 0 ls []) := by
  have hx := F.1
  have hb := F.2.1
  unfold sh_X9_widthOf at h
  refine lv_iconst (v := (0 : Int32)) hx hb dX9_widthOf_0 (by decide) ?_
  refine lv_istore_n (lv' := [(2, .int (0 : Int32)), (0, .long a0)]) hx hb dX9_widthOf_1 rfl hl (by decide) rfl (fun ls hl => ?_)
  refine lv_iconst (v := (0 : Int32)) hx hb dX9_widthOf_2 (by decide) ?_
  refine lv_istore_n (lv' := [(3, .int (0 : Int32)), (2, .int (0 : Int32)), (0, .long a0)]) hx hb dX9_widthOf_3 rfl hl (by decide) rfl (fun ls hl => ?_)
  exact wk_X9_widthOf_4 F hr n _ _ _ _ _ h hW hS (lv_sub hl [2, 1, 0] rfl)
set_option maxHeartbeats 4000000 in
set_option maxRecDepth 100000 in
theorem c_X9_widthOf {l : Launch} {G : Gt} {b : Nat} {n : Nat} {a0 : Int64} {μ : Mm} {out : Int32} (h : sh_X9_widthOf n a0 μ = some out) : Met l yX9_widthOf (wU (Cond.code yX9_widthOf cX9_widthOf 4 (some .int))) ({ frames := 1, cells := 0, slots := 0, locals := 22 } : Room) (PcW G b μ [.long a0]) (QW G b μ (some (.int out))) 0 0 (fb b) :=
  met_of [.long a0] (by decide) (Nat.le_of_ble_eq_true rfl) (fun F hr hW hl => wk_X9_widthOf F hr h hW va_S.rf hl)
set_option maxHeartbeats 4000000 in
set_option maxRecDepth 100000 in
theorem k_X9_widthOf {nL : Nat} (F : FX G b RX9 cc nL p s m args meth c) {n : Nat} {a0 : Int64} {μ : Mm} {out : Int32} (h : sh_X9_widthOf n a0 μ = some out) {index : Nat} (hl : Cond.methodLink RX9 index yX9_widthOf ∈ TBG) (hR : 1 + 1 ≤ R.frames ∧ 8 + (4 + 11) + 22 ≤ R.locals ∧ cells ≤ R.cells ∧ slots ≤ R.slots) (hW : WH G b μ H) (hS : va_S (fb b) s.heap H locs) (hsz : ls.size = nL) (hrest : (rest.map fun v => v.category).sum ≤ 8) (hdg : decode cc pc = .ok (.invokestatic index, 3))
    (kk : ∀ (H1 : Heap) (locs1 : List Loc), WH G b μ H1 → va_S (fb b) s.heap H1 locs1 → W p l e R s m args below meth c H1 locs1 cells slots Q (F0 m (pc + 3) ls (.int out :: rest))) : W p l e R s m args below meth c H locs cells slots Q (F0 m pc ls (.long a0 :: rest)) :=
  f_callS (As := [.long a0]) (c_X9_widthOf h) ⟨rfl, rfl⟩ q_454 q_5 q_455 rfl ⟨by decide +kernel, by decide +kernel, (show (parseMethodDescriptor yX9_widthOf.desc).map (fun d => d.parameters.length) = some 1 by decide +kernel)⟩ F hl hR hW hS hsz hrest rfl hdg kk
set_option maxHeartbeats 4000000 in
set_option maxRecDepth 100000 in
theorem k_X9_widthOf_x {own : String} {nL : Nat} (F : FX G b own cc nL p s m args meth c) {n : Nat} {a0 : Int64} {μ : Mm} {out : Int32} (h : sh_X9_widthOf n a0 μ = some out) {index : Nat} (hl : Cond.methodLink own index yX9_widthOf ∈ TBG) (hR : 1 + 1 ≤ R.frames ∧ 8 + (4 + 11) + 22 ≤ R.locals ∧ cells ≤ R.cells ∧ slots ≤ R.slots) (hW : WH G b μ H) (hS : va_S (fb b) s.heap H locs) (hsz : ls.size = nL) (hrest : (rest.map fun v => v.category).sum ≤ 8) (hdg : decode cc pc = .ok (.invokestatic index, 3))
    (kk : ∀ (H1 : Heap) (locs1 : List Loc), WH G b μ H1 → va_S (fb b) s.heap H1 locs1 → W p l e R s m args below meth c H1 locs1 cells slots Q (F0 m (pc + 3) ls (.int out :: rest))) : W p l e R s m args below meth c H locs cells slots Q (F0 m pc ls (.long a0 :: rest)) :=
  f_callSx (As := [.long a0]) (c_X9_widthOf h) ⟨rfl, rfl⟩ q_454 q_5 q_455 ⟨by decide +kernel, by decide +kernel, (show (parseMethodDescriptor yX9_widthOf.desc).map (fun d => d.parameters.length) = some 1 by decide +kernel)⟩ F hl hR hW hS hsz hrest rfl hdg kk
set_option maxHeartbeats 4000000 in
set_option maxRecDepth 100000 in
theorem wk_X5_put {t : Nat} {a1 : Int32} {a2 : Int32} {μ : Mm} {out : Mm} (F : FX G b RX5 cX5_put 3 p s m args meth c) (hr : meth.sig.returnType = none) (ht : okRo t) (h : sh_X5_put t a1 a2 μ = some out) (hW : WH G b μ H) (hS : va_S (fb b) s.heap H locs) (hl : lv_has ls 3 [(0, .ref (b + t)), (1, .int a1), (2, .int a2)]) : W p l e ({ frames := 0, cells := 0, slots := 0, locals := 0 } : Room) s m args below meth c H locs 0 0 (MQ below (QW G b out none) args s 0 0 (fb b)) (F0 m 0 ls []) := by
  have hx := F.1
  have hb := F.2.1
  unfold sh_X5_put at h
  refine lv_iload_n hx hb dX5_put_0 rfl (lv_at hl 1 rfl) ?_
  refine lv_if_lt (tgt := 20) hx hb dX5_put_1 (by decide) (fun cc => ?_) (fun cc => ?_)
  · replace h := (if_pos cc).symm.trans h
    cases h
    exact r_void F hr hW hS dX5_put_20
  · replace h := (if_neg cc).symm.trans h
    refine lv_iload_n hx hb dX5_put_4 rfl (lv_at hl 1 rfl) ?_
    refine lv_aload_n hx hb dX5_put_5 rfl (lv_at hl 0 rfl) ?_
    refine fl_get5 (v := .ref (b + (t + 1))) (ht).1 F hW 0 (by decide) q_133 rfl rfl dX5_put_6 ?_
    refine fl_alenI (ht).2 F hW dX5_put_9 ?_
    refine lv_icmp_ge (tgt := 20) hx hb dX5_put_10 (by decide) (fun cc => ?_) (fun cc => ?_)
    · replace h := (if_pos cc).symm.trans h
      cases h
      exact r_void F hr hW hS dX5_put_20
    · replace h := (if_neg cc).symm.trans h
      refine lv_aload_n hx hb dX5_put_13 rfl (lv_at hl 0 rfl) ?_
      refine fl_get5 (v := .ref (b + (t + 1))) (ht).1 F hW 0 (by decide) q_133 rfl rfl dX5_put_14 ?_
      refine lv_iload_n hx hb dX5_put_17 rfl (lv_at hl 1 rfl) ?_
      refine lv_iload_n hx hb dX5_put_18 rfl (lv_at hl 2 rfl) ?_
      obtain ⟨μ1, qμ1, h⟩ := ob h
      refine fl_iast (ht).2 F hW hS qμ1 dX5_put_19 (fun H locs hW hS => ?_)
      cases h
      exact r_void F hr hW hS dX5_put_20
set_option maxHeartbeats 4000000 in
set_option maxRecDepth 100000 in
theorem c_X5_put {l : Launch} {G : Gt} {b : Nat} {t : Nat} {a1 : Int32} {a2 : Int32} {μ : Mm} {out : Mm} (ht : okRo t) (h : sh_X5_put t a1 a2 μ = some out) : Met l yX5_put (wU (Cond.code yX5_put cX5_put 3 none)) ({ frames := 0, cells := 0, slots := 0, locals := 0 } : Room) (PcW G b μ [.ref (b + t), .int a1, .int a2]) (QW G b out none) 0 0 (fb b) :=
  met_of [.ref (b + t), .int a1, .int a2] (by decide) (Nat.le_of_ble_eq_true rfl) (fun F hr hW hl => wk_X5_put F hr ht h hW va_S.rf hl)
set_option maxHeartbeats 4000000 in
set_option maxRecDepth 100000 in
theorem k_X5_put {own : String} {nL : Nat} (F : FX G b own cc nL p s m args meth c) {t : Nat} {a1 : Int32} {a2 : Int32} {μ : Mm} {out : Mm} (ht : okRo t) (h : sh_X5_put t a1 a2 μ = some out) {index : Nat} (hl : Cond.methodLink own index yX5_put ∈ TBG) (hR : 0 + 1 ≤ R.frames ∧ 8 + (3 + 11) + 0 ≤ R.locals ∧ cells ≤ R.cells ∧ slots ≤ R.slots) (hW : WH G b μ H) (hS : va_S (fb b) s.heap H locs) (hsz : ls.size = nL) (hrest : (rest.map fun v => v.category).sum ≤ 8) (hdg : decode cc pc = .ok (.invokevirtual index, 3))
    (kk : ∀ (H1 : Heap) (locs1 : List Loc), WH G b out H1 → va_S (fb b) s.heap H1 locs1 → W p l e R s m args below meth c H1 locs1 cells slots Q (F0 m (pc + 3) ls (rest))) : W p l e R s m args below meth c H locs cells slots Q (F0 m pc ls (.int a2 :: .int a1 :: .ref (b + t) :: rest)) :=
  f_callV (As := [.int a1, .int a2]) (ci := 5) (c_X5_put ht h) ⟨rfl, rfl⟩ rfl (ky_lt ht.1 (by decide)) (wF_5 ht.1) q_145 q_146 q_8 q_147 rfl ⟨by decide +kernel, by decide +kernel, (show (parseMethodDescriptor yX5_put.desc).map (fun d => d.parameters.length) = some 2 by decide +kernel)⟩ F hl hR hW hS hsz hrest rfl hdg kk
end G10
