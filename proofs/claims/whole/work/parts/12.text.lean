section G12
variable {p : Program} {l : Launch} {e : Env} {R : Room} {s : State} {m : MethodId} {args : Array Value} {below : List Frame} {meth : Method} {c : Code} {H : Heap} {locs : List Loc} {cells slots : Nat} {Q : State → Prop}
variable {cc : ByteArray} {pc : Nat} {ls : Array Slot} {rest : List Value} {G : Gt} {b : Nat}

set_option maxHeartbeats 4000000 in
set_option maxRecDepth 100000 in
theorem wk_X8_length {t : Nat} {μ : Mm} {out : Int32} (F : FX G b RX8 cX8_length 1 p s m args meth c) (hr : meth.sig.returnType = some .int) (ht : okTx t) (h : sh_X8_length t μ = some out) (hW : WH G b μ H) (hS : va_S (fb b) s.heap H locs) (hl : lv_has ls 1 [(0, .ref (b + t))]) : W p l e ({ frames := 0, cells := 0, slots := 0, locals := 0 } : Room) s m args below meth c H locs 0 0 (MQ below (QW G b μ (some (.int out))) args s 0 0 (fb b)) (F0 m 0 ls []) := by
  have hx := F.1
  have hb := F.2.1
  unfold sh_X8_length at h
  refine lv_aload_n hx hb dX8_length_0 rfl (lv_at hl 0 rfl) ?_
  refine fl_get8 (v := .int (μ.1 t 1)) (ht).1 F hW 1 (by decide) q_46 rfl rfl dX8_length_1 ?_
  cases h
  exact r_int F hr hW hS dX8_length_4
set_option maxHeartbeats 4000000 in
set_option maxRecDepth 100000 in
theorem c_X8_length {l : Launch} {G : Gt} {b : Nat} {t : Nat} {μ : Mm} {out : Int32} (ht : okTx t) (h : sh_X8_length t μ = some out) : Met l yX8_length (wU (Cond.code yX8_length cX8_length 1 (some .int))) ({ frames := 0, cells := 0, slots := 0, locals := 0 } : Room) (PcW G b μ [.ref (b + t)]) (QW G b μ (some (.int out))) 0 0 (fb b) :=
  met_of [.ref (b + t)] (by decide) (Nat.le_of_ble_eq_true rfl) (fun F hr hW hl => wk_X8_length F hr ht h hW va_S.rf hl)
set_option maxHeartbeats 4000000 in
set_option maxRecDepth 100000 in
theorem k_X8_length {own : String} {nL : Nat} (F : FX G b own cc nL p s m args meth c) {t : Nat} {μ : Mm} {out : Int32} (ht : okTx t) (h : sh_X8_length t μ = some out) {index : Nat} (hl : Cond.methodLink own index yX8_length ∈ TBG) (hR : 0 + 1 ≤ R.frames ∧ 8 + (1 + 11) + 0 ≤ R.locals ∧ cells ≤ R.cells ∧ slots ≤ R.slots) (hW : WH G b μ H) (hS : va_S (fb b) s.heap H locs) (hsz : ls.size = nL) (hrest : (rest.map fun v => v.category).sum ≤ 8) (hdg : decode cc pc = .ok (.invokevirtual index, 3))
    (kk : ∀ (H1 : Heap) (locs1 : List Loc), WH G b μ H1 → va_S (fb b) s.heap H1 locs1 → W p l e R s m args below meth c H1 locs1 cells slots Q (F0 m (pc + 3) ls (.int out :: rest))) : W p l e R s m args below meth c H locs cells slots Q (F0 m pc ls (.ref (b + t) :: rest)) :=
  f_callV (As := []) (ci := 8) (c_X8_length ht h) ⟨rfl, rfl⟩ rfl (ky_lt ht.1 (by decide)) (wF_8 ht.1) q_596 q_597 q_2 q_598 rfl ⟨by decide +kernel, by decide +kernel, (show (parseMethodDescriptor yX8_length.desc).map (fun d => d.parameters.length) = some 0 by decide +kernel)⟩ F hl hR hW hS hsz hrest rfl hdg kk
set_option maxHeartbeats 4000000 in
set_option maxRecDepth 100000 in
theorem wk_X8_at {t : Nat} {a1 : Int32} {μ : Mm} {out : Int32} (F : FX G b RX8 cX8_at 2 p s m args meth c) (hr : meth.sig.returnType = some .int) (ht : okTx t) (h : sh_X8_at t a1 μ = some out) (hW : WH G b μ H) (hS : va_S (fb b) s.heap H locs) (hl : lv_has ls 2 [(0, .ref (b + t)), (1, .int a1)]) : W p l e ({ frames := 0, cells := 0, slots := 0, locals := 0 } : Room) s m args below meth c H locs 0 0 (MQ below (QW G b μ (some (.int out))) args s 0 0 (fb b)) (F0 m 0 ls []) := by
  have hx := F.1
  have hb := F.2.1
  unfold sh_X8_at at h
  refine lv_iload_n hx hb dX8_at_0 rfl (lv_at hl 1 rfl) ?_
  refine lv_if_lt (tgt := 30) hx hb dX8_at_1 (by decide) (fun cc => ?_) (fun cc => ?_)
  · replace h := (if_pos cc).symm.trans h
    refine lv_iconst (v := (0 : Int32)) hx hb dX8_at_30 (by decide) ?_
    cases h
    exact r_int F hr hW hS dX8_at_31
  · replace h := (if_neg cc).symm.trans h
    refine lv_iload_n hx hb dX8_at_4 rfl (lv_at hl 1 rfl) ?_
    refine lv_aload_n hx hb dX8_at_5 rfl (lv_at hl 0 rfl) ?_
    refine fl_get8 (v := .int (μ.1 t 1)) (ht).1 F hW 1 (by decide) q_46 rfl rfl dX8_at_6 ?_
    refine lv_icmp_ge (tgt := 30) hx hb dX8_at_9 (by decide) (fun cc => ?_) (fun cc => ?_)
    · replace h := (if_pos cc).symm.trans h
      refine lv_iconst (v := (0 : Int32)) hx hb dX8_at_30 (by decide) ?_
      cases h
      exact r_int F hr hW hS dX8_at_31
    · replace h := (if_neg cc).symm.trans h
      refine lv_iload_n hx hb dX8_at_12 rfl (lv_at hl 1 rfl) ?_
      refine lv_aload_n hx hb dX8_at_13 rfl (lv_at hl 0 rfl) ?_
      refine fl_get8 (v := .ref (b + (t + 1))) (ht).1 F hW 0 (by decide) q_45 rfl rfl dX8_at_14 ?_
      refine fl_alenB (ht).2 F hW dX8_at_17 ?_
      refine lv_icmp_ge (tgt := 30) hx hb dX8_at_18 (by decide) (fun cc => ?_) (fun cc => ?_)
      · replace h := (if_pos cc).symm.trans h
        refine lv_iconst (v := (0 : Int32)) hx hb dX8_at_30 (by decide) ?_
        cases h
        exact r_int F hr hW hS dX8_at_31
      · replace h := (if_neg cc).symm.trans h
        refine lv_aload_n hx hb dX8_at_21 rfl (lv_at hl 0 rfl) ?_
        refine fl_get8 (v := .ref (b + (t + 1))) (ht).1 F hW 0 (by decide) q_45 rfl rfl dX8_at_22 ?_
        refine lv_iload_n hx hb dX8_at_25 rfl (lv_at hl 1 rfl) ?_
        obtain ⟨v1, qv1, h⟩ := ob h
        refine fl_bald (ht).2 F hW qv1 dX8_at_26 ?_
        refine lv_goto (tgt := 31) hx hb dX8_at_27 (by decide) ?_
        cases h
        exact r_int F hr hW hS dX8_at_31
set_option maxHeartbeats 4000000 in
set_option maxRecDepth 100000 in
theorem c_X8_at {l : Launch} {G : Gt} {b : Nat} {t : Nat} {a1 : Int32} {μ : Mm} {out : Int32} (ht : okTx t) (h : sh_X8_at t a1 μ = some out) : Met l yX8_at (wU (Cond.code yX8_at cX8_at 2 (some .int))) ({ frames := 0, cells := 0, slots := 0, locals := 0 } : Room) (PcW G b μ [.ref (b + t), .int a1]) (QW G b μ (some (.int out))) 0 0 (fb b) :=
  met_of [.ref (b + t), .int a1] (by decide) (Nat.le_of_ble_eq_true rfl) (fun F hr hW hl => wk_X8_at F hr ht h hW va_S.rf hl)
set_option maxHeartbeats 4000000 in
set_option maxRecDepth 100000 in
theorem k_X8_at {own : String} {nL : Nat} (F : FX G b own cc nL p s m args meth c) {t : Nat} {a1 : Int32} {μ : Mm} {out : Int32} (ht : okTx t) (h : sh_X8_at t a1 μ = some out) {index : Nat} (hl : Cond.methodLink own index yX8_at ∈ TBG) (hR : 0 + 1 ≤ R.frames ∧ 8 + (2 + 11) + 0 ≤ R.locals ∧ cells ≤ R.cells ∧ slots ≤ R.slots) (hW : WH G b μ H) (hS : va_S (fb b) s.heap H locs) (hsz : ls.size = nL) (hrest : (rest.map fun v => v.category).sum ≤ 8) (hdg : decode cc pc = .ok (.invokevirtual index, 3))
    (kk : ∀ (H1 : Heap) (locs1 : List Loc), WH G b μ H1 → va_S (fb b) s.heap H1 locs1 → W p l e R s m args below meth c H1 locs1 cells slots Q (F0 m (pc + 3) ls (.int out :: rest))) : W p l e R s m args below meth c H locs cells slots Q (F0 m pc ls (.int a1 :: .ref (b + t) :: rest)) :=
  f_callV (As := [.int a1]) (ci := 8) (c_X8_at ht h) ⟨rfl, rfl⟩ rfl (ky_lt ht.1 (by decide)) (wF_8 ht.1) q_600 q_601 q_2 q_602 rfl ⟨by decide +kernel, by decide +kernel, (show (parseMethodDescriptor yX8_at.desc).map (fun d => d.parameters.length) = some 1 by decide +kernel)⟩ F hl hR hW hS hsz hrest rfl hdg kk
set_option maxHeartbeats 4000000 in
set_option maxRecDepth 100000 in
theorem wk_X8_put {t : Nat} {a1 : Int32} {μ : Mm} {out : Mm} (F : FX G b RX8 cX8_put 2 p s m args meth c) (hr : meth.sig.returnType = none) (ht : okTx t) (h : sh_X8_put t a1 μ = some out) (hW : WH G b μ H) (hS : va_S (fb b) s.heap H locs) (hl : lv_has ls 2 [(0, .ref (b + t)), (1, .int a1)]) : W p l e ({ frames := 0, cells := 0, slots := 0, locals := 0 } : Room) s m args below meth c H locs 0 0 (MQ below (QW G b out none) args s 0 0 (fb b)) (F0 m 0 ls []) := by
  have hx := F.1
  have hb := F.2.1
  unfold sh_X8_put at h
  refine lv_aload_n hx hb dX8_put_0 rfl (lv_at hl 0 rfl) ?_
  refine fl_get8 (v := .int (μ.1 t 1)) (ht).1 F hW 1 (by decide) q_46 rfl rfl dX8_put_1 ?_
  refine lv_if_lt (tgt := 40) hx hb dX8_put_4 (by decide) (fun cc => ?_) (fun cc => ?_)
  · replace h := (if_pos cc).symm.trans h
    cases h
    exact r_void F hr hW hS dX8_put_40
  · replace h := (if_neg cc).symm.trans h
    refine lv_aload_n hx hb dX8_put_7 rfl (lv_at hl 0 rfl) ?_
    refine fl_get8 (v := .int (μ.1 t 1)) (ht).1 F hW 1 (by decide) q_46 rfl rfl dX8_put_8 ?_
    refine lv_aload_n hx hb dX8_put_11 rfl (lv_at hl 0 rfl) ?_
    refine fl_get8 (v := .ref (b + (t + 1))) (ht).1 F hW 0 (by decide) q_45 rfl rfl dX8_put_12 ?_
    refine fl_alenB (ht).2 F hW dX8_put_15 ?_
    refine lv_icmp_ge (tgt := 40) hx hb dX8_put_16 (by decide) (fun cc => ?_) (fun cc => ?_)
    · replace h := (if_pos cc).symm.trans h
      cases h
      exact r_void F hr hW hS dX8_put_40
    · replace h := (if_neg cc).symm.trans h
      refine lv_aload_n hx hb dX8_put_19 rfl (lv_at hl 0 rfl) ?_
      refine fl_get8 (v := .ref (b + (t + 1))) (ht).1 F hW 0 (by decide) q_45 rfl rfl dX8_put_20 ?_
      refine lv_aload_n hx hb dX8_put_23 rfl (lv_at hl 0 rfl) ?_
      refine fl_get8 (v := .int (μ.1 t 1)) (ht).1 F hW 1 (by decide) q_46 rfl rfl dX8_put_24 ?_
      refine lv_iload_n hx hb dX8_put_27 rfl (lv_at hl 1 rfl) ?_
      refine lv_i2b hx hb dX8_put_28 rfl ?_
      obtain ⟨μ1, qμ1, h⟩ := ob h
      refine fl_bast (ht).2 F hW hS qμ1 dX8_put_29 (fun H locs hW hS => ?_)
      refine lv_aload_n hx hb dX8_put_30 rfl (lv_at hl 0 rfl) ?_
      refine lv_dup hx hb dX8_put_31 rfl ?_
      refine fl_get8 (v := .int (μ1.1 t 1)) (ht).1 F hW 1 (by decide) q_46 rfl rfl dX8_put_32 ?_
      refine lv_iconst (v := (1 : Int32)) hx hb dX8_put_35 (by decide) ?_
      refine lv_iadd hx hb dX8_put_36 ?_
      obtain ⟨μ2, hmμ2, h⟩ := ob h
      refine fl_put8_1 (ht).1 F hW hS q_46 hmμ2 dX8_put_37 (fun H locs hW hS => ?_)
      cases h
      exact r_void F hr hW hS dX8_put_40
set_option maxHeartbeats 4000000 in
set_option maxRecDepth 100000 in
theorem c_X8_put {l : Launch} {G : Gt} {b : Nat} {t : Nat} {a1 : Int32} {μ : Mm} {out : Mm} (ht : okTx t) (h : sh_X8_put t a1 μ = some out) : Met l yX8_put (wU (Cond.code yX8_put cX8_put 2 none)) ({ frames := 0, cells := 0, slots := 0, locals := 0 } : Room) (PcW G b μ [.ref (b + t), .int a1]) (QW G b out none) 0 0 (fb b) :=
  met_of [.ref (b + t), .int a1] (by decide) (Nat.le_of_ble_eq_true rfl) (fun F hr hW hl => wk_X8_put F hr ht h hW va_S.rf hl)
set_option maxHeartbeats 4000000 in
set_option maxRecDepth 100000 in
theorem k_X8_put {own : String} {nL : Nat} (F : FX G b own cc nL p s m args meth c) {t : Nat} {a1 : Int32} {μ : Mm} {out : Mm} (ht : okTx t) (h : sh_X8_put t a1 μ = some out) {index : Nat} (hl : Cond.methodLink own index yX8_put ∈ TBG) (hR : 0 + 1 ≤ R.frames ∧ 8 + (2 + 11) + 0 ≤ R.locals ∧ cells ≤ R.cells ∧ slots ≤ R.slots) (hW : WH G b μ H) (hS : va_S (fb b) s.heap H locs) (hsz : ls.size = nL) (hrest : (rest.map fun v => v.category).sum ≤ 8) (hdg : decode cc pc = .ok (.invokevirtual index, 3))
    (kk : ∀ (H1 : Heap) (locs1 : List Loc), WH G b out H1 → va_S (fb b) s.heap H1 locs1 → W p l e R s m args below meth c H1 locs1 cells slots Q (F0 m (pc + 3) ls (rest))) : W p l e R s m args below meth c H locs cells slots Q (F0 m pc ls (.int a1 :: .ref (b + t) :: rest)) :=
  f_callV (As := [.int a1]) (ci := 8) (c_X8_put ht h) ⟨rfl, rfl⟩ rfl (ky_lt ht.1 (by decide)) (wF_8 ht.1) q_899 q_900 q_2 q_901 rfl ⟨by decide +kernel, by decide +kernel, (show (parseMethodDescriptor yX8_put.desc).map (fun d => d.parameters.length) = some 1 by decide +kernel)⟩ F hl hR hW hS hsz hrest rfl hdg kk
set_option maxHeartbeats 4000000 in
set_option maxRecDepth 100000 in
theorem wk_X8_cut {t : Nat} {a1 : Int32} {μ : Mm} {out : Mm} (F : FX G b RX8 cX8_cut 2 p s m args meth c) (hr : meth.sig.returnType = none) (ht : okTx t) (h : sh_X8_cut t a1 μ = some out) (hW : WH G b μ H) (hS : va_S (fb b) s.heap H locs) (hl : lv_has ls 2 [(0, .ref (b + t)), (1, .int a1)]) : W p l e ({ frames := 0, cells := 0, slots := 0, locals := 0 } : Room) s m args below meth c H locs 0 0 (MQ below (QW G b out none) args s 0 0 (fb b)) (F0 m 0 ls []) := by
  have hx := F.1
  have hb := F.2.1
  unfold sh_X8_cut at h
  refine lv_aload_n hx hb dX8_cut_0 rfl (lv_at hl 0 rfl) ?_
  refine lv_iload_n hx hb dX8_cut_1 rfl (lv_at hl 1 rfl) ?_
  obtain ⟨μ1, hmμ1, h⟩ := ob h
  refine fl_put8_1 (ht).1 F hW hS q_46 hmμ1 dX8_cut_2 (fun H locs hW hS => ?_)
  cases h
  exact r_void F hr hW hS dX8_cut_5
set_option maxHeartbeats 4000000 in
set_option maxRecDepth 100000 in
theorem c_X8_cut {l : Launch} {G : Gt} {b : Nat} {t : Nat} {a1 : Int32} {μ : Mm} {out : Mm} (ht : okTx t) (h : sh_X8_cut t a1 μ = some out) : Met l yX8_cut (wU (Cond.code yX8_cut cX8_cut 2 none)) ({ frames := 0, cells := 0, slots := 0, locals := 0 } : Room) (PcW G b μ [.ref (b + t), .int a1]) (QW G b out none) 0 0 (fb b) :=
  met_of [.ref (b + t), .int a1] (by decide) (Nat.le_of_ble_eq_true rfl) (fun F hr hW hl => wk_X8_cut F hr ht h hW va_S.rf hl)
set_option maxHeartbeats 4000000 in
set_option maxRecDepth 100000 in
theorem k_X8_cut {own : String} {nL : Nat} (F : FX G b own cc nL p s m args meth c) {t : Nat} {a1 : Int32} {μ : Mm} {out : Mm} (ht : okTx t) (h : sh_X8_cut t a1 μ = some out) {index : Nat} (hl : Cond.methodLink own index yX8_cut ∈ TBG) (hR : 0 + 1 ≤ R.frames ∧ 8 + (2 + 11) + 0 ≤ R.locals ∧ cells ≤ R.cells ∧ slots ≤ R.slots) (hW : WH G b μ H) (hS : va_S (fb b) s.heap H locs) (hsz : ls.size = nL) (hrest : (rest.map fun v => v.category).sum ≤ 8) (hdg : decode cc pc = .ok (.invokevirtual index, 3))
    (kk : ∀ (H1 : Heap) (locs1 : List Loc), WH G b out H1 → va_S (fb b) s.heap H1 locs1 → W p l e R s m args below meth c H1 locs1 cells slots Q (F0 m (pc + 3) ls (rest))) : W p l e R s m args below meth c H locs cells slots Q (F0 m pc ls (.int a1 :: .ref (b + t) :: rest)) :=
  f_callV (As := [.int a1]) (ci := 8) (c_X8_cut ht h) ⟨rfl, rfl⟩ rfl (ky_lt ht.1 (by decide)) (wF_8 ht.1) q_758 q_759 q_2 q_760 rfl ⟨by decide +kernel, by decide +kernel, (show (parseMethodDescriptor yX8_cut.desc).map (fun d => d.parameters.length) = some 1 by decide +kernel)⟩ F hl hR hW hS hsz hrest rfl hdg kk
set_option maxHeartbeats 4000000 in
set_option maxRecDepth 100000 in
theorem wk_X8_putFour {t : Nat} {a1 : Int32} {μ : Mm} {out : Mm} (F : FX G b RX8 cX8_putFour 2 p s m args meth c) (hr : meth.sig.returnType = none) (ht : okTx t) (h : sh_X8_putFour t a1 μ = some out) (hW : WH G b μ H) (hS : va_S (fb b) s.heap H locs) (hl : lv_has ls 2 [(0, .ref (b + t)), (1, .int a1)]) : W p l e ({ frames := 1, cells := 0, slots := 0, locals := 21 } : Room) s m args below meth c H locs 0 0 (MQ below (QW G b out none) args s 0 0 (fb b)) (F0 m 0 ls []) := by
  have hx := F.1
  have hb := F.2.1
  unfold sh_X8_putFour at h
  refine lv_aload_n hx hb dX8_putFour_0 rfl (lv_at hl 0 rfl) ?_
  refine lv_iload_n hx hb dX8_putFour_1 rfl (lv_at hl 1 rfl) ?_
  refine lv_bipush (v := (24 : Int32)) hx hb dX8_putFour_2 (by decide) ?_
  refine lv_ishr hx hb dX8_putFour_4 ?_
  obtain ⟨r1, qr1, h⟩ := ob h
  refine k_X8_put F ht qr1 q_898 ⟨Nat.le_of_ble_eq_true rfl, Nat.le_of_ble_eq_true rfl, Nat.le_of_ble_eq_true rfl, Nat.le_of_ble_eq_true rfl⟩ hW hS hl.1 (Nat.le_of_ble_eq_true rfl) dX8_putFour_5 (fun H locs hW hS => ?_)
  refine lv_aload_n hx hb dX8_putFour_8 rfl (lv_at hl 0 rfl) ?_
  refine lv_iload_n hx hb dX8_putFour_9 rfl (lv_at hl 1 rfl) ?_
  refine lv_bipush (v := (16 : Int32)) hx hb dX8_putFour_10 (by decide) ?_
  refine lv_ishr hx hb dX8_putFour_12 ?_
  obtain ⟨r2, qr2, h⟩ := ob h
  refine k_X8_put F ht qr2 q_898 ⟨Nat.le_of_ble_eq_true rfl, Nat.le_of_ble_eq_true rfl, Nat.le_of_ble_eq_true rfl, Nat.le_of_ble_eq_true rfl⟩ hW hS hl.1 (Nat.le_of_ble_eq_true rfl) dX8_putFour_13 (fun H locs hW hS => ?_)
  refine lv_aload_n hx hb dX8_putFour_16 rfl (lv_at hl 0 rfl) ?_
  refine lv_iload_n hx hb dX8_putFour_17 rfl (lv_at hl 1 rfl) ?_
  refine lv_bipush (v := (8 : Int32)) hx hb dX8_putFour_18 (by decide) ?_
  refine lv_ishr hx hb dX8_putFour_20 ?_
  obtain ⟨r3, qr3, h⟩ := ob h
  refine k_X8_put F ht qr3 q_898 ⟨Nat.le_of_ble_eq_true rfl, Nat.le_of_ble_eq_true rfl, Nat.le_of_ble_eq_true rfl, Nat.le_of_ble_eq_true rfl⟩ hW hS hl.1 (Nat.le_of_ble_eq_true rfl) dX8_putFour_21 (fun H locs hW hS => ?_)
  refine lv_aload_n hx hb dX8_putFour_24 rfl (lv_at hl 0 rfl) ?_
  refine lv_iload_n hx hb dX8_putFour_25 rfl (lv_at hl 1 rfl) ?_
  obtain ⟨r4, qr4, h⟩ := ob h
  refine k_X8_put F ht qr4 q_898 ⟨Nat.le_of_ble_eq_true rfl, Nat.le_of_ble_eq_true rfl, Nat.le_of_ble_eq_true rfl, Nat.le_of_ble_eq_true rfl⟩ hW hS hl.1 (Nat.le_of_ble_eq_true rfl) dX8_putFour_26 (fun H locs hW hS => ?_)
  cases h
  exact r_void F hr hW hS dX8_putFour_29
set_option maxHeartbeats 4000000 in
set_option maxRecDepth 100000 in
theorem c_X8_putFour {l : Launch} {G : Gt} {b : Nat} {t : Nat} {a1 : Int32} {μ : Mm} {out : Mm} (ht : okTx t) (h : sh_X8_putFour t a1 μ = some out) : Met l yX8_putFour (wU (Cond.code yX8_putFour cX8_putFour 2 none)) ({ frames := 1, cells := 0, slots := 0, locals := 21 } : Room) (PcW G b μ [.ref (b + t), .int a1]) (QW G b out none) 0 0 (fb b) :=
  met_of [.ref (b + t), .int a1] (by decide) (Nat.le_of_ble_eq_true rfl) (fun F hr hW hl => wk_X8_putFour F hr ht h hW va_S.rf hl)
set_option maxHeartbeats 4000000 in
set_option maxRecDepth 100000 in
theorem k_X8_putFour {own : String} {nL : Nat} (F : FX G b own cc nL p s m args meth c) {t : Nat} {a1 : Int32} {μ : Mm} {out : Mm} (ht : okTx t) (h : sh_X8_putFour t a1 μ = some out) {index : Nat} (hl : Cond.methodLink own index yX8_putFour ∈ TBG) (hR : 1 + 1 ≤ R.frames ∧ 8 + (2 + 11) + 21 ≤ R.locals ∧ cells ≤ R.cells ∧ slots ≤ R.slots) (hW : WH G b μ H) (hS : va_S (fb b) s.heap H locs) (hsz : ls.size = nL) (hrest : (rest.map fun v => v.category).sum ≤ 8) (hdg : decode cc pc = .ok (.invokevirtual index, 3))
    (kk : ∀ (H1 : Heap) (locs1 : List Loc), WH G b out H1 → va_S (fb b) s.heap H1 locs1 → W p l e R s m args below meth c H1 locs1 cells slots Q (F0 m (pc + 3) ls (rest))) : W p l e R s m args below meth c H locs cells slots Q (F0 m pc ls (.int a1 :: .ref (b + t) :: rest)) :=
  f_callV (As := [.int a1]) (ci := 8) (c_X8_putFour ht h) ⟨rfl, rfl⟩ rfl (ky_lt ht.1 (by decide)) (wF_8 ht.1) q_1053 q_1054 q_2 q_1055 rfl ⟨by decide +kernel, by decide +kernel, (show (parseMethodDescriptor yX8_putFour.desc).map (fun d => d.parameters.length) = some 1 by decide +kernel)⟩ F hl hR hW hS hsz hrest rfl hdg kk
set_option maxHeartbeats 4000000 in
set_option maxRecDepth 100000 in
theorem wk_X8_putTimes_2 {n : Nat} {t : Nat} {a1 : Int32} {a2 : Int32} {out : Mm} (F : FX G b RX8 cX8_putTimes 4 p s m args meth c) (hr : meth.sig.returnType = none) (ht : okTx t) : ∀ (f : Nat) (x3 : Int32) (μ : Mm) (H : Heap) (locs : List Loc) (ls : Array Slot), sh_X8_putTimes_2 n t a1 a2 f x3 μ = some out → WH G b μ H → va_S (fb b) s.heap H locs → lv_has ls 4 [(0, .ref (b + t)), (1, .int a1), (2, .int a2), (3, .int x3)] → W p l e ({ frames := 1, cells := 0, slots := 0, locals := 21 } : Room) s m args below meth c H locs 0 0 (MQ below (QW G b out none) args s 0 0 (fb b)) (F0 m 2 ls []) := by
  have hx := F.1
  have hb := F.2.1
  intro f
  induction f with
  | zero =>
    intro _ _ _ _ _ h
    rw [sh_X8_putTimes_2] at h
    cases h
  | succ f ih =>
    intro x3 μ H locs ls h hW hS hl
    rw [sh_X8_putTimes_2] at h
    have hk2 := ih
    refine lv_iload_n hx hb dX8_putTimes_2 rfl (lv_at hl 3 rfl) ?_
    refine lv_iload_n hx hb dX8_putTimes_3 rfl (lv_at hl 2 rfl) ?_
    refine lv_icmp_ge (tgt := 18) hx hb dX8_putTimes_4 (by decide) (fun cc => ?_) (fun cc => ?_)
    · replace h := (if_pos cc).symm.trans h
      cases h
      exact r_void F hr hW hS dX8_putTimes_18
    · replace h := (if_neg cc).symm.trans h
      refine lv_aload_n hx hb dX8_putTimes_7 rfl (lv_at hl 0 rfl) ?_
      refine lv_iload_n hx hb dX8_putTimes_8 rfl (lv_at hl 1 rfl) ?_
      obtain ⟨r1, qr1, h⟩ := ob h
      refine k_X8_put F ht qr1 q_898 ⟨Nat.le_of_ble_eq_true rfl, Nat.le_of_ble_eq_true rfl, Nat.le_of_ble_eq_true rfl, Nat.le_of_ble_eq_true rfl⟩ hW hS hl.1 (Nat.le_of_ble_eq_true rfl) dX8_putTimes_9 (fun H locs hW hS => ?_)
      refine lv_iinc (v := (x3 + (1 : Int32))) (lv' := [(3, .int (x3 + (1 : Int32))), (0, .ref (b + t)), (1, .int a1), (2, .int a2)]) hx hb dX8_putTimes_12 hl (k := 3) rfl rfl (by decide) rfl (fun ls hl => ?_)
      refine lv_goto (tgt := 2) hx hb dX8_putTimes_15 (by decide) ?_
      exact hk2 _ _ _ _ _ h hW hS (lv_sub hl [1, 2, 3, 0] rfl)
set_option maxHeartbeats 4000000 in
set_option maxRecDepth 100000 in
theorem wk_X8_putTimes {n : Nat} {t : Nat} {a1 : Int32} {a2 : Int32} {μ : Mm} {out : Mm} (F : FX G b RX8 cX8_putTimes 4 p s m args meth c) (hr : meth.sig.returnType = none) (ht : okTx t) (h : sh_X8_putTimes n t a1 a2 μ = some out) (hW : WH G b μ H) (hS : va_S (fb b) s.heap H locs) (hl : lv_has ls 4 [(0, .ref (b + t)), (1, .int a1), (2, .int a2)]) : W p l e ({ frames := 1, cells := 0, slots := 0, locals := 21 } : Room) s m args below meth c H locs 0 0 (MQ below (QW G b out none) args s 0 0 (fb b)) (F0 m 0 ls []) := by
  have hx := F.1
  have hb := F.2.1
  unfold sh_X8_putTimes at h
  refine lv_iconst (v := (0 : Int32)) hx hb dX8_putTimes_0 (by decide) ?_
  refine lv_istore_n (lv' := [(3, .int (0 : Int32)), (0, .ref (b + t)), (1, .int a1), (2, .int a2)]) hx hb dX8_putTimes_1 rfl hl (by decide) rfl (fun ls hl => ?_)
  exact wk_X8_putTimes_2 F hr ht n _ _ _ _ _ h hW hS (lv_sub hl [1, 2, 3, 0] rfl)
set_option maxHeartbeats 4000000 in
set_option maxRecDepth 100000 in
theorem c_X8_putTimes {l : Launch} {G : Gt} {b : Nat} {n : Nat} {t : Nat} {a1 : Int32} {a2 : Int32} {μ : Mm} {out : Mm} (ht : okTx t) (h : sh_X8_putTimes n t a1 a2 μ = some out) : Met l yX8_putTimes (wU (Cond.code yX8_putTimes cX8_putTimes 4 none)) ({ frames := 1, cells := 0, slots := 0, locals := 21 } : Room) (PcW G b μ [.ref (b + t), .int a1, .int a2]) (QW G b out none) 0 0 (fb b) :=
  met_of [.ref (b + t), .int a1, .int a2] (by decide) (Nat.le_of_ble_eq_true rfl) (fun F hr hW hl => wk_X8_putTimes F hr ht h hW va_S.rf hl)
set_option maxHeartbeats 4000000 in
set_option maxRecDepth 100000 in
theorem k_X8_putTimes {own : String} {nL : Nat} (F : FX G b own cc nL p s m args meth c) {n : Nat} {t : Nat} {a1 : Int32} {a2 : Int32} {μ : Mm} {out : Mm} (ht : okTx t) (h : sh_X8_putTimes n t a1 a2 μ = some out) {index : Nat} (hl : Cond.methodLink own index yX8_putTimes ∈ TBG) (hR : 1 + 1 ≤ R.frames ∧ 8 + (4 + 11) + 21 ≤ R.locals ∧ cells ≤ R.cells ∧ slots ≤ R.slots) (hW : WH G b μ H) (hS : va_S (fb b) s.heap H locs) (hsz : ls.size = nL) (hrest : (rest.map fun v => v.category).sum ≤ 8) (hdg : decode cc pc = .ok (.invokevirtual index, 3))
    (kk : ∀ (H1 : Heap) (locs1 : List Loc), WH G b out H1 → va_S (fb b) s.heap H1 locs1 → W p l e R s m args below meth c H1 locs1 cells slots Q (F0 m (pc + 3) ls (rest))) : W p l e R s m args below meth c H locs cells slots Q (F0 m pc ls (.int a2 :: .int a1 :: .ref (b + t) :: rest)) :=
  f_callV (As := [.int a1, .int a2]) (ci := 8) (c_X8_putTimes ht h) ⟨rfl, rfl⟩ rfl (ky_lt ht.1 (by decide)) (wF_8 ht.1) q_895 q_896 q_2 q_897 rfl ⟨by decide +kernel, by decide +kernel, (show (parseMethodDescriptor yX8_putTimes.desc).map (fun d => d.parameters.length) = some 2 by decide +kernel)⟩ F hl hR hW hS hsz hrest rfl hdg kk
set_option maxHeartbeats 4000000 in
set_option maxRecDepth 100000 in
theorem wk_X8_putWord_2 {n : Nat} {t : Nat} {a1 : Int64} {out : Mm} (F : FX G b RX8 cX8_putWord 4 p s m args meth c) (hr : meth.sig.returnType = none) (ht : okTx t) : ∀ (f : Nat) (x3 : Int32) (μ : Mm) (H : Heap) (locs : List Loc) (ls : Array Slot), sh_X8_putWord_2 n t a1 f x3 μ = some out → WH G b μ H → va_S (fb b) s.heap H locs → lv_has ls 4 [(0, .ref (b + t)), (1, .long a1), (3, .int x3)] → W p l e ({ frames := 1, cells := 0, slots := 0, locals := 22 } : Room) s m args below meth c H locs 0 0 (MQ below (QW G b out none) args s 0 0 (fb b)) (F0 m 2 ls []) := by
  have hx := F.1
  have hb := F.2.1
  intro f
  induction f with
  | zero =>
    intro _ _ _ _ _ h
    rw [sh_X8_putWord_2] at h
    cases h
  | succ f ih =>
    intro x3 μ H locs ls h hW hS hl
    rw [sh_X8_putWord_2] at h
    have hk2 := ih
    refine lv_iload_n hx hb dX8_putWord_2 rfl (lv_at hl 2 rfl) ?_
    refine lv_bipush (v := (12 : Int32)) hx hb dX8_putWord_3 (by decide) ?_
    refine lv_icmp_ge (tgt := 34) hx hb dX8_putWord_5 (by decide) (fun cc => ?_) (fun cc => ?_)
    · replace h := (if_pos cc).symm.trans h
      cases h
      exact r_void F hr hW hS dX8_putWord_34
    · replace h := (if_neg cc).symm.trans h
      refine lv_lload_n hx hb dX8_putWord_8 rfl (lv_at hl 1 rfl) ?_
      refine lv_iload_n hx hb dX8_putWord_9 rfl (lv_at hl 2 rfl) ?_
      obtain ⟨r1, qr1, h⟩ := ob h
      refine k_X9_letterOf_x F qr1 q_922 ⟨Nat.le_of_ble_eq_true rfl, Nat.le_of_ble_eq_true rfl, Nat.le_of_ble_eq_true rfl, Nat.le_of_ble_eq_true rfl⟩ hW hS hl.1 (Nat.le_of_ble_eq_true rfl) dX8_putWord_10 (fun H locs hW hS => ?_)
      refine lv_if_eq (tgt := 34) hx hb dX8_putWord_13 (by decide) (fun cc => ?_) (fun cc => ?_)
      · replace h := (if_pos cc).symm.trans h
        cases h
        exact r_void F hr hW hS dX8_putWord_34
      · replace h := (if_neg cc).symm.trans h
        refine lv_aload_n hx hb dX8_putWord_16 rfl (lv_at hl 0 rfl) ?_
        refine lv_bipush (v := (96 : Int32)) hx hb dX8_putWord_17 (by decide) ?_
        refine lv_lload_n hx hb dX8_putWord_19 rfl (lv_at hl 1 rfl) ?_
        refine lv_iload_n hx hb dX8_putWord_20 rfl (lv_at hl 2 rfl) ?_
        obtain ⟨r2, qr2, h⟩ := ob h
        refine k_X9_letterOf_x F qr2 q_922 ⟨Nat.le_of_ble_eq_true rfl, Nat.le_of_ble_eq_true rfl, Nat.le_of_ble_eq_true rfl, Nat.le_of_ble_eq_true rfl⟩ hW hS hl.1 (Nat.le_of_ble_eq_true rfl) dX8_putWord_21 (fun H locs hW hS => ?_)
        refine lv_iadd hx hb dX8_putWord_24 ?_
        obtain ⟨r3, qr3, h⟩ := ob h
        refine k_X8_put F ht qr3 q_898 ⟨Nat.le_of_ble_eq_true rfl, Nat.le_of_ble_eq_true rfl, Nat.le_of_ble_eq_true rfl, Nat.le_of_ble_eq_true rfl⟩ hW hS hl.1 (Nat.le_of_ble_eq_true rfl) dX8_putWord_25 (fun H locs hW hS => ?_)
        refine lv_iinc (v := (x3 + (1 : Int32))) (lv' := [(3, .int (x3 + (1 : Int32))), (0, .ref (b + t)), (1, .long a1)]) hx hb dX8_putWord_28 hl (k := 2) rfl rfl (by decide) rfl (fun ls hl => ?_)
        refine lv_goto (tgt := 2) hx hb dX8_putWord_31 (by decide) ?_
        exact hk2 _ _ _ _ _ h hW hS (lv_sub hl [1, 2, 0] rfl)
set_option maxHeartbeats 4000000 in
set_option maxRecDepth 100000 in
theorem wk_X8_putWord {n : Nat} {t : Nat} {a1 : Int64} {μ : Mm} {out : Mm} (F : FX G b RX8 cX8_putWord 4 p s m args meth c) (hr : meth.sig.returnType = none) (ht : okTx t) (h : sh_X8_putWord n t a1 μ = some out) (hW : WH G b μ H) (hS : va_S (fb b) s.heap H locs) (hl : lv_has ls 4 [(0, .ref (b + t)), (1, .long a1)]) : W p l e ({ frames := 1, cells := 0, slots := 0, locals := 22 } : Room) s m args below meth c H locs 0 0 (MQ below (QW G b out none) args s 0 0 (fb b)) (F0 m 0 ls []) := by
  have hx := F.1
  have hb := F.2.1
  unfold sh_X8_putWord at h
  refine lv_iconst (v := (0 : Int32)) hx hb dX8_putWord_0 (by decide) ?_
  refine lv_istore_n (lv' := [(3, .int (0 : Int32)), (0, .ref (b + t)), (1, .long a1)]) hx hb dX8_putWord_1 rfl hl (by decide) rfl (fun ls hl => ?_)
  exact wk_X8_putWord_2 F hr ht n _ _ _ _ _ h hW hS (lv_sub hl [1, 2, 0] rfl)
set_option maxHeartbeats 4000000 in
set_option maxRecDepth 100000 in
theorem c_X8_putWord {l : Launch} {G : Gt} {b : Nat} {n : Nat} {t : Nat} {a1 : Int64} {μ : Mm} {out : Mm} (ht : okTx t) (h : sh_X8_putWord n t a1 μ = some out) : Met l yX8_putWord (wU (Cond.code yX8_putWord cX8_putWord 4 none)) ({ frames := 1, cells := 0, slots := 0, locals := 22 } : Room) (PcW G b μ [.ref (b + t), .long a1]) (QW G b out none) 0 0 (fb b) :=
  met_of [.ref (b + t), .long a1] (by decide) (Nat.le_of_ble_eq_true rfl) (fun F hr hW hl => wk_X8_putWord F hr ht h hW va_S.rf hl)
set_option maxHeartbeats 4000000 in
set_option maxRecDepth 100000 in
theorem k_X8_putWord {own : String} {nL : Nat} (F : FX G b own cc nL p s m args meth c) {n : Nat} {t : Nat} {a1 : Int64} {μ : Mm} {out : Mm} (ht : okTx t) (h : sh_X8_putWord n t a1 μ = some out) {index : Nat} (hl : Cond.methodLink own index yX8_putWord ∈ TBG) (hR : 1 + 1 ≤ R.frames ∧ 8 + (4 + 11) + 22 ≤ R.locals ∧ cells ≤ R.cells ∧ slots ≤ R.slots) (hW : WH G b μ H) (hS : va_S (fb b) s.heap H locs) (hsz : ls.size = nL) (hrest : (rest.map fun v => v.category).sum ≤ 8) (hdg : decode cc pc = .ok (.invokevirtual index, 3))
    (kk : ∀ (H1 : Heap) (locs1 : List Loc), WH G b out H1 → va_S (fb b) s.heap H1 locs1 → W p l e R s m args below meth c H1 locs1 cells slots Q (F0 m (pc + 3) ls (rest))) : W p l e R s m args below meth c H locs cells slots Q (F0 m pc ls (.long a1 :: .ref (b + t) :: rest)) :=
  f_callV (As := [.long a1]) (ci := 8) (c_X8_putWord ht h) ⟨rfl, rfl⟩ rfl (ky_lt ht.1 (by decide)) (wF_8 ht.1) q_919 q_920 q_2 q_921 rfl ⟨by decide +kernel, by decide +kernel, (show (parseMethodDescriptor yX8_putWord.desc).map (fun d => d.parameters.length) = some 1 by decide +kernel)⟩ F hl hR hW hS hsz hrest rfl hdg kk
set_option maxHeartbeats 4000000 in
set_option maxRecDepth 100000 in
theorem wk_X11_quotient {a0 : Int32} {a1 : Int32} {μ : Mm} {out : Int32} (F : FX G b RX11 cX11_quotient 2 p s m args meth c) (hr : meth.sig.returnType = some .int) (h : sh_X11_quotient a0 a1 μ = some out) (hW : WH G b μ H) (hS : va_S (fb b) s.heap H locs) (hl : lv_has ls 2 [(0, .int a0), (1, .int a1)]) : W p l e ({ frames := 0, cells := 0, slots := 0, locals := 0 } : Room) s m args below meth c H locs 0 0 (MQ below (QW G b μ (some (.int out))) args s 0 0 (fb b)) (F0 m 0 ls []) := by
  have hx := F.1
  have hb := F.2.1
  unfold sh_X11_quotient at h
  refine lv_iload_n hx hb dX11_quotient_0 rfl (lv_at hl 1 rfl) ?_
  refine lv_if_le (tgt := 10) hx hb dX11_quotient_1 (by decide) (fun cc => ?_) (fun cc => ?_)
  · replace h := (if_pos cc).symm.trans h
    refine lv_iconst (v := (0 : Int32)) hx hb dX11_quotient_10 (by decide) ?_
    cases h
    exact r_int F hr hW hS dX11_quotient_11
  · replace h := (if_neg cc).symm.trans h
    refine lv_iload_n hx hb dX11_quotient_4 rfl (lv_at hl 0 rfl) ?_
    refine lv_iload_n hx hb dX11_quotient_5 rfl (lv_at hl 1 rfl) ?_
    obtain ⟨v1, qv1, h⟩ := ob h
    obtain ⟨zv1, qv1⟩ := dv_some qv1
    refine lv_idiv hx hb dX11_quotient_6 zv1 ?_
    rw [qv1]
    refine lv_goto (tgt := 11) hx hb dX11_quotient_7 (by decide) ?_
    cases h
    exact r_int F hr hW hS dX11_quotient_11
set_option maxHeartbeats 4000000 in
set_option maxRecDepth 100000 in
theorem c_X11_quotient {l : Launch} {G : Gt} {b : Nat} {a0 : Int32} {a1 : Int32} {μ : Mm} {out : Int32} (h : sh_X11_quotient a0 a1 μ = some out) : Met l yX11_quotient (wU (Cond.code yX11_quotient cX11_quotient 2 (some .int))) ({ frames := 0, cells := 0, slots := 0, locals := 0 } : Room) (PcW G b μ [.int a0, .int a1]) (QW G b μ (some (.int out))) 0 0 (fb b) :=
  met_of [.int a0, .int a1] (by decide) (Nat.le_of_ble_eq_true rfl) (fun F hr hW hl => wk_X11_quotient F hr h hW va_S.rf hl)
set_option maxHeartbeats 4000000 in
set_option maxRecDepth 100000 in
theorem k_X11_quotient {nL : Nat} (F : FX G b RX11 cc nL p s m args meth c) {a0 : Int32} {a1 : Int32} {μ : Mm} {out : Int32} (h : sh_X11_quotient a0 a1 μ = some out) {index : Nat} (hl : Cond.methodLink RX11 index yX11_quotient ∈ TBG) (hR : 0 + 1 ≤ R.frames ∧ 8 + (2 + 11) + 0 ≤ R.locals ∧ cells ≤ R.cells ∧ slots ≤ R.slots) (hW : WH G b μ H) (hS : va_S (fb b) s.heap H locs) (hsz : ls.size = nL) (hrest : (rest.map fun v => v.category).sum ≤ 8) (hdg : decode cc pc = .ok (.invokestatic index, 3))
    (kk : ∀ (H1 : Heap) (locs1 : List Loc), WH G b μ H1 → va_S (fb b) s.heap H1 locs1 → W p l e R s m args below meth c H1 locs1 cells slots Q (F0 m (pc + 3) ls (.int out :: rest))) : W p l e R s m args below meth c H locs cells slots Q (F0 m pc ls (.int a1 :: .int a0 :: rest)) :=
  f_callS (As := [.int a0, .int a1]) (c_X11_quotient h) ⟨rfl, rfl⟩ q_488 q_1 q_489 rfl ⟨by decide +kernel, by decide +kernel, (show (parseMethodDescriptor yX11_quotient.desc).map (fun d => d.parameters.length) = some 2 by decide +kernel)⟩ F hl hR hW hS hsz hrest rfl hdg kk
set_option maxHeartbeats 4000000 in
set_option maxRecDepth 100000 in
theorem k_X11_quotient_n {own : String} {nL : Nat} (F : FX G b own cc nL p s m args meth c) {a0 : Int32} {a1 : Int32} {μ : Mm} {out : Int32} (h : sh_X11_quotient a0 a1 μ = some out) {index : Nat} (hl : (own, index, yX11_quotient, "ContentsSetter") ∈ nestL) (hR : 0 + 1 ≤ R.frames ∧ 8 + (2 + 11) + 0 ≤ R.locals ∧ cells ≤ R.cells ∧ slots ≤ R.slots) (hW : WH G b μ H) (hS : va_S (fb b) s.heap H locs) (hsz : ls.size = nL) (hrest : (rest.map fun v => v.category).sum ≤ 8) (hdg : decode cc pc = .ok (.invokestatic index, 3))
    (kk : ∀ (H1 : Heap) (locs1 : List Loc), WH G b μ H1 → va_S (fb b) s.heap H1 locs1 → W p l e R s m args below meth c H1 locs1 cells slots Q (F0 m (pc + 3) ls (.int out :: rest))) : W p l e R s m args below meth c H locs cells slots Q (F0 m pc ls (.int a1 :: .int a0 :: rest)) :=
  f_callSN (As := [.int a0, .int a1]) (c_X11_quotient h) ⟨rfl, rfl⟩ q_488 q_1 q_489 ⟨by decide +kernel, by decide +kernel, (show (parseMethodDescriptor yX11_quotient.desc).map (fun d => d.parameters.length) = some 2 by decide +kernel)⟩ F hl hR hW hS hsz hrest rfl hdg kk
set_option maxHeartbeats 4000000 in
set_option maxRecDepth 100000 in
theorem wk_X8_putArabic_26 {n : Nat} {t : Nat} {a1 : Int32} {out : Mm} (F : FX G b RX8 cX8_putArabic 3 p s m args meth c) (hr : meth.sig.returnType = none) (ht : okTx t) : ∀ (f : Nat) (x2 : Int32) (μ : Mm) (H : Heap) (locs : List Loc) (ls : Array Slot), sh_X8_putArabic_26 n t a1 f x2 μ = some out → WH G b μ H → va_S (fb b) s.heap H locs → lv_has ls 3 [(0, .ref (b + t)), (1, .int a1), (2, .int x2)] → W p l e ({ frames := 1, cells := 0, slots := 0, locals := 21 } : Room) s m args below meth c H locs 0 0 (MQ below (QW G b out none) args s 0 0 (fb b)) (F0 m 26 ls []) := by
  have hx := F.1
  have hb := F.2.1
  intro f
  induction f with
  | zero =>
    intro _ _ _ _ _ h
    rw [sh_X8_putArabic_26] at h
    cases h
  | succ f ih =>
    intro x2 μ H locs ls h hW hS hl
    rw [sh_X8_putArabic_26] at h
    have hk26 := ih
    refine lv_iload_n hx hb dX8_putArabic_26 rfl (lv_at hl 2 rfl) ?_
    refine lv_if_le (tgt := 53) hx hb dX8_putArabic_27 (by decide) (fun cc => ?_) (fun cc => ?_)
    · replace h := (if_pos cc).symm.trans h
      cases h
      exact r_void F hr hW hS dX8_putArabic_53
    · replace h := (if_neg cc).symm.trans h
      refine lv_aload_n hx hb dX8_putArabic_30 rfl (lv_at hl 0 rfl) ?_
      refine lv_bipush (v := (48 : Int32)) hx hb dX8_putArabic_31 (by decide) ?_
      refine lv_iload_n hx hb dX8_putArabic_33 rfl (lv_at hl 1 rfl) ?_
      refine lv_iload_n hx hb dX8_putArabic_34 rfl (lv_at hl 2 rfl) ?_
      obtain ⟨r1, qr1, h⟩ := ob h
      refine k_X11_quotient_n F qr1 (by decide +kernel) ⟨Nat.le_of_ble_eq_true rfl, Nat.le_of_ble_eq_true rfl, Nat.le_of_ble_eq_true rfl, Nat.le_of_ble_eq_true rfl⟩ hW hS hl.1 (Nat.le_of_ble_eq_true rfl) dX8_putArabic_35 (fun H locs hW hS => ?_)
      refine lv_bipush (v := (10 : Int32)) hx hb dX8_putArabic_38 (by decide) ?_
      obtain ⟨v2, qv2, h⟩ := ob h
      obtain ⟨zv2, qv2⟩ := rm_some qv2
      refine lv_irem hx hb dX8_putArabic_40 zv2 ?_
      rw [qv2]
      refine lv_iadd hx hb dX8_putArabic_41 ?_
      obtain ⟨r3, qr3, h⟩ := ob h
      refine k_X8_put F ht qr3 q_898 ⟨Nat.le_of_ble_eq_true rfl, Nat.le_of_ble_eq_true rfl, Nat.le_of_ble_eq_true rfl, Nat.le_of_ble_eq_true rfl⟩ hW hS hl.1 (Nat.le_of_ble_eq_true rfl) dX8_putArabic_42 (fun H locs hW hS => ?_)
      refine lv_iload_n hx hb dX8_putArabic_45 rfl (lv_at hl 2 rfl) ?_
      refine lv_bipush (v := (10 : Int32)) hx hb dX8_putArabic_46 (by decide) ?_
      obtain ⟨v4, qv4, h⟩ := ob h
      obtain ⟨zv4, qv4⟩ := dv_some qv4
      refine lv_idiv hx hb dX8_putArabic_48 zv4 ?_
      rw [qv4]
      refine lv_istore_n (lv' := [(2, .int v4), (0, .ref (b + t)), (1, .int a1)]) hx hb dX8_putArabic_49 rfl hl (by decide) rfl (fun ls hl => ?_)
      refine lv_goto (tgt := 26) hx hb dX8_putArabic_50 (by decide) ?_
      exact hk26 _ _ _ _ _ h hW hS (lv_sub hl [1, 2, 0] rfl)
set_option maxHeartbeats 4000000 in
set_option maxRecDepth 100000 in
theorem wk_X8_putArabic_2 {n : Nat} {t : Nat} {a1 : Int32} {out : Mm} (F : FX G b RX8 cX8_putArabic 3 p s m args meth c) (hr : meth.sig.returnType = none) (ht : okTx t) : ∀ (f : Nat) (x2 : Int32) (μ : Mm) (H : Heap) (locs : List Loc) (ls : Array Slot), sh_X8_putArabic_2 n t a1 f x2 μ = some out → WH G b μ H → va_S (fb b) s.heap H locs → lv_has ls 3 [(0, .ref (b + t)), (1, .int a1), (2, .int x2)] → W p l e ({ frames := 1, cells := 0, slots := 0, locals := 21 } : Room) s m args below meth c H locs 0 0 (MQ below (QW G b out none) args s 0 0 (fb b)) (F0 m 2 ls []) := by
  have hx := F.1
  have hb := F.2.1
  intro f
  induction f with
  | zero =>
    intro _ _ _ _ _ h
    rw [sh_X8_putArabic_2] at h
    cases h
  | succ f ih =>
    intro x2 μ H locs ls h hW hS hl
    rw [sh_X8_putArabic_2] at h
    have hk2 := ih
    refine lv_iload_n hx hb dX8_putArabic_2 rfl (lv_at hl 2 rfl) ?_
    refine lv_ldc hx hb F.2.2.2.1 (F.2.2.2.2.1 _ q_915) dX8_putArabic_3 ?_
    refine lv_icmp_ge (tgt := 26) hx hb dX8_putArabic_5 (by decide) (fun cc => ?_) (fun cc => ?_)
    · replace h := (if_pos cc).symm.trans h
      exact wk_X8_putArabic_26 F hr ht n _ _ _ _ _ h hW hS (lv_sub hl [0, 1, 2] rfl)
    · replace h := (if_neg cc).symm.trans h
      refine lv_iload_n hx hb dX8_putArabic_8 rfl (lv_at hl 1 rfl) ?_
      refine lv_iload_n hx hb dX8_putArabic_9 rfl (lv_at hl 2 rfl) ?_
      obtain ⟨r5, qr5, h⟩ := ob h
      refine k_X11_quotient_n F qr5 (by decide +kernel) ⟨Nat.le_of_ble_eq_true rfl, Nat.le_of_ble_eq_true rfl, Nat.le_of_ble_eq_true rfl, Nat.le_of_ble_eq_true rfl⟩ hW hS hl.1 (Nat.le_of_ble_eq_true rfl) dX8_putArabic_10 (fun H locs hW hS => ?_)
      refine lv_bipush (v := (10 : Int32)) hx hb dX8_putArabic_13 (by decide) ?_
      refine lv_icmp_lt (tgt := 26) hx hb dX8_putArabic_15 (by decide) (fun cc => ?_) (fun cc => ?_)
      · replace h := (if_pos cc).symm.trans h
        exact wk_X8_putArabic_26 F hr ht n _ _ _ _ _ h hW hS (lv_sub hl [0, 1, 2] rfl)
      · replace h := (if_neg cc).symm.trans h
        refine lv_iload_n hx hb dX8_putArabic_18 rfl (lv_at hl 2 rfl) ?_
        refine lv_bipush (v := (10 : Int32)) hx hb dX8_putArabic_19 (by decide) ?_
        refine lv_imul hx hb dX8_putArabic_21 ?_
        obtain ⟨v6, ev6⟩ : ∃ y, y = (x2 * (10 : Int32)) := ⟨_, rfl⟩
        have h := nm_at ev6 h
        rw [← ev6]
        refine lv_istore_n (lv' := [(2, .int v6), (0, .ref (b + t)), (1, .int a1)]) hx hb dX8_putArabic_22 rfl hl (by decide) rfl (fun ls hl => ?_)
        refine lv_goto (tgt := 2) hx hb dX8_putArabic_23 (by decide) ?_
        exact hk2 _ _ _ _ _ h hW hS (lv_sub hl [1, 2, 0] rfl)
set_option maxHeartbeats 4000000 in
set_option maxRecDepth 100000 in
theorem wk_X8_putArabic {n : Nat} {t : Nat} {a1 : Int32} {μ : Mm} {out : Mm} (F : FX G b RX8 cX8_putArabic 3 p s m args meth c) (hr : meth.sig.returnType = none) (ht : okTx t) (h : sh_X8_putArabic n t a1 μ = some out) (hW : WH G b μ H) (hS : va_S (fb b) s.heap H locs) (hl : lv_has ls 3 [(0, .ref (b + t)), (1, .int a1)]) : W p l e ({ frames := 1, cells := 0, slots := 0, locals := 21 } : Room) s m args below meth c H locs 0 0 (MQ below (QW G b out none) args s 0 0 (fb b)) (F0 m 0 ls []) := by
  have hx := F.1
  have hb := F.2.1
  unfold sh_X8_putArabic at h
  refine lv_iconst (v := (1 : Int32)) hx hb dX8_putArabic_0 (by decide) ?_
  refine lv_istore_n (lv' := [(2, .int (1 : Int32)), (0, .ref (b + t)), (1, .int a1)]) hx hb dX8_putArabic_1 rfl hl (by decide) rfl (fun ls hl => ?_)
  exact wk_X8_putArabic_2 F hr ht n _ _ _ _ _ h hW hS (lv_sub hl [1, 2, 0] rfl)
set_option maxHeartbeats 4000000 in
set_option maxRecDepth 100000 in
theorem c_X8_putArabic {l : Launch} {G : Gt} {b : Nat} {n : Nat} {t : Nat} {a1 : Int32} {μ : Mm} {out : Mm} (ht : okTx t) (h : sh_X8_putArabic n t a1 μ = some out) : Met l yX8_putArabic (wU (Cond.code yX8_putArabic cX8_putArabic 3 none)) ({ frames := 1, cells := 0, slots := 0, locals := 21 } : Room) (PcW G b μ [.ref (b + t), .int a1]) (QW G b out none) 0 0 (fb b) :=
  met_of [.ref (b + t), .int a1] (by decide) (Nat.le_of_ble_eq_true rfl) (fun F hr hW hl => wk_X8_putArabic F hr ht h hW va_S.rf hl)
set_option maxHeartbeats 4000000 in
set_option maxRecDepth 100000 in
theorem k_X8_putArabic {own : String} {nL : Nat} (F : FX G b own cc nL p s m args meth c) {n : Nat} {t : Nat} {a1 : Int32} {μ : Mm} {out : Mm} (ht : okTx t) (h : sh_X8_putArabic n t a1 μ = some out) {index : Nat} (hl : Cond.methodLink own index yX8_putArabic ∈ TBG) (hR : 1 + 1 ≤ R.frames ∧ 8 + (3 + 11) + 21 ≤ R.locals ∧ cells ≤ R.cells ∧ slots ≤ R.slots) (hW : WH G b μ H) (hS : va_S (fb b) s.heap H locs) (hsz : ls.size = nL) (hrest : (rest.map fun v => v.category).sum ≤ 8) (hdg : decode cc pc = .ok (.invokevirtual index, 3))
    (kk : ∀ (H1 : Heap) (locs1 : List Loc), WH G b out H1 → va_S (fb b) s.heap H1 locs1 → W p l e R s m args below meth c H1 locs1 cells slots Q (F0 m (pc + 3) ls (rest))) : W p l e R s m args below meth c H locs cells slots Q (F0 m pc ls (.int a1 :: .ref (b + t) :: rest)) :=
  f_callV (As := [.int a1]) (ci := 8) (c_X8_putArabic ht h) ⟨rfl, rfl⟩ rfl (ky_lt ht.1 (by decide)) (wF_8 ht.1) q_912 q_913 q_2 q_914 rfl ⟨by decide +kernel, by decide +kernel, (show (parseMethodDescriptor yX8_putArabic.desc).map (fun d => d.parameters.length) = some 1 by decide +kernel)⟩ F hl hR hW hS hsz hrest rfl hdg kk
set_option maxHeartbeats 4000000 in
set_option maxRecDepth 100000 in
theorem wk_X8_putRomanFigure_53 {n : Nat} {t : Nat} {a1 : Int32} {a2 : Int32} {a3 : Int32} {a4 : Int32} {out : Mm} (F : FX G b RX8 cX8_putRomanFigure 6 p s m args meth c) (hr : meth.sig.returnType = none) (ht : okTx t) : ∀ (f : Nat) (x5 : Int32) (μ : Mm) (H : Heap) (locs : List Loc) (ls : Array Slot), sh_X8_putRomanFigure_53 n t a1 a2 a3 a4 f x5 μ = some out → WH G b μ H → va_S (fb b) s.heap H locs → lv_has ls 6 [(0, .ref (b + t)), (2, .int a2), (5, .int x5)] → W p l e ({ frames := 1, cells := 0, slots := 0, locals := 21 } : Room) s m args below meth c H locs 0 0 (MQ below (QW G b out none) args s 0 0 (fb b)) (F0 m 53 ls []) := by
  have hx := F.1
  have hb := F.2.1
  intro f
  induction f with
  | zero =>
    intro _ _ _ _ _ h
    rw [sh_X8_putRomanFigure_53] at h
    cases h
  | succ f ih =>
    intro x5 μ H locs ls h hW hS hl
    rw [sh_X8_putRomanFigure_53] at h
    have hk53 := ih
    refine lv_iload hx hb dX8_putRomanFigure_53 (lv_at hl 2 rfl) ?_
    refine lv_if_le (tgt := 69) hx hb dX8_putRomanFigure_55 (by decide) (fun cc => ?_) (fun cc => ?_)
    · replace h := (if_pos cc).symm.trans h
      cases h
      exact r_void F hr hW hS dX8_putRomanFigure_69
    · replace h := (if_neg cc).symm.trans h
      refine lv_aload_n hx hb dX8_putRomanFigure_58 rfl (lv_at hl 0 rfl) ?_
      refine lv_iload_n hx hb dX8_putRomanFigure_59 rfl (lv_at hl 1 rfl) ?_
      obtain ⟨r2, qr2, h⟩ := ob h
      refine k_X8_put F ht qr2 q_898 ⟨Nat.le_of_ble_eq_true rfl, Nat.le_of_ble_eq_true rfl, Nat.le_of_ble_eq_true rfl, Nat.le_of_ble_eq_true rfl⟩ hW hS hl.1 (Nat.le_of_ble_eq_true rfl) dX8_putRomanFigure_60 (fun H locs hW hS => ?_)
      refine lv_iinc (v := (x5 + (-1 : Int32))) (lv' := [(5, .int (x5 + (-1 : Int32))), (0, .ref (b + t)), (2, .int a2)]) hx hb dX8_putRomanFigure_63 hl (k := 2) rfl rfl (by decide) rfl (fun ls hl => ?_)
      refine lv_goto (tgt := 53) hx hb dX8_putRomanFigure_66 (by decide) ?_
      exact hk53 _ _ _ _ _ h hW hS (lv_sub hl [1, 2, 0] rfl)
set_option maxHeartbeats 4000000 in
set_option maxRecDepth 100000 in
theorem wk_X8_putRomanFigure {n : Nat} {t : Nat} {a1 : Int32} {a2 : Int32} {a3 : Int32} {a4 : Int32} {μ : Mm} {out : Mm} (F : FX G b RX8 cX8_putRomanFigure 6 p s m args meth c) (hr : meth.sig.returnType = none) (ht : okTx t) (h : sh_X8_putRomanFigure n t a1 a2 a3 a4 μ = some out) (hW : WH G b μ H) (hS : va_S (fb b) s.heap H locs) (hl : lv_has ls 6 [(0, .ref (b + t)), (1, .int a1), (2, .int a2), (3, .int a3), (4, .int a4)]) : W p l e ({ frames := 1, cells := 0, slots := 0, locals := 21 } : Room) s m args below meth c H locs 0 0 (MQ below (QW G b out none) args s 0 0 (fb b)) (F0 m 0 ls []) := by
  have hx := F.1
  have hb := F.2.1
  unfold sh_X8_putRomanFigure at h
  refine lv_iload_n hx hb dX8_putRomanFigure_0 rfl (lv_at hl 1 rfl) ?_
  refine lv_bipush (v := (9 : Int32)) hx hb dX8_putRomanFigure_1 (by decide) ?_
  refine lv_icmp_ne (tgt := 20) hx hb dX8_putRomanFigure_3 (by decide) (fun cc => ?_) (fun cc => ?_)
  · replace h := (if_neg cc).symm.trans h
    refine lv_iload_n hx hb dX8_putRomanFigure_20 rfl (lv_at hl 1 rfl) ?_
    refine lv_iconst (v := (4 : Int32)) hx hb dX8_putRomanFigure_21 (by decide) ?_
    refine lv_icmp_ne (tgt := 38) hx hb dX8_putRomanFigure_22 (by decide) (fun cc => ?_) (fun cc => ?_)
    · replace h := (if_neg cc).symm.trans h
      refine lv_iload_n hx hb dX8_putRomanFigure_38 rfl (lv_at hl 1 rfl) ?_
      refine lv_iconst (v := (5 : Int32)) hx hb dX8_putRomanFigure_39 (by decide) ?_
      refine lv_icmp_lt (tgt := 48) hx hb dX8_putRomanFigure_40 (by decide) (fun cc => ?_) (fun cc => ?_)
      · replace h := (if_pos cc).symm.trans h
        refine lv_iload_n hx hb dX8_putRomanFigure_48 rfl (lv_at hl 1 rfl) ?_
        refine lv_iconst (v := (5 : Int32)) hx hb dX8_putRomanFigure_49 (by decide) ?_
        obtain ⟨v1, qv1, h⟩ := ob h
        obtain ⟨zv1, qv1⟩ := rm_some qv1
        refine lv_irem hx hb dX8_putRomanFigure_50 zv1 ?_
        rw [qv1]
        refine lv_istore (lv' := [(5, .int v1), (0, .ref (b + t)), (1, .int a1), (2, .int a2), (3, .int a3), (4, .int a4)]) hx hb dX8_putRomanFigure_51 hl (by decide) rfl (fun ls hl => ?_)
        exact wk_X8_putRomanFigure_53 F hr ht n _ _ _ _ _ h hW hS (lv_sub hl [1, 3, 0] rfl)
      · replace h := (if_neg cc).symm.trans h
        refine lv_aload_n hx hb dX8_putRomanFigure_43 rfl (lv_at hl 0 rfl) ?_
        refine lv_iload_n hx hb dX8_putRomanFigure_44 rfl (lv_at hl 3 rfl) ?_
        obtain ⟨r3, qr3, h⟩ := ob h
        refine k_X8_put F ht qr3 q_898 ⟨Nat.le_of_ble_eq_true rfl, Nat.le_of_ble_eq_true rfl, Nat.le_of_ble_eq_true rfl, Nat.le_of_ble_eq_true rfl⟩ hW hS hl.1 (Nat.le_of_ble_eq_true rfl) dX8_putRomanFigure_45 (fun H locs hW hS => ?_)
        refine lv_iload_n hx hb dX8_putRomanFigure_48 rfl (lv_at hl 1 rfl) ?_
        refine lv_iconst (v := (5 : Int32)) hx hb dX8_putRomanFigure_49 (by decide) ?_
        obtain ⟨v4, qv4, h⟩ := ob h
        obtain ⟨zv4, qv4⟩ := rm_some qv4
        refine lv_irem hx hb dX8_putRomanFigure_50 zv4 ?_
        rw [qv4]
        refine lv_istore (lv' := [(5, .int v4), (0, .ref (b + t)), (1, .int a1), (2, .int a2), (3, .int a3), (4, .int a4)]) hx hb dX8_putRomanFigure_51 hl (by decide) rfl (fun ls hl => ?_)
        exact wk_X8_putRomanFigure_53 F hr ht n _ _ _ _ _ h hW hS (lv_sub hl [1, 3, 0] rfl)
    · replace h := (if_pos cc).symm.trans h
      refine lv_aload_n hx hb dX8_putRomanFigure_25 rfl (lv_at hl 0 rfl) ?_
      refine lv_iload_n hx hb dX8_putRomanFigure_26 rfl (lv_at hl 2 rfl) ?_
      obtain ⟨r5, qr5, h⟩ := ob h
      refine k_X8_put F ht qr5 q_898 ⟨Nat.le_of_ble_eq_true rfl, Nat.le_of_ble_eq_true rfl, Nat.le_of_ble_eq_true rfl, Nat.le_of_ble_eq_true rfl⟩ hW hS hl.1 (Nat.le_of_ble_eq_true rfl) dX8_putRomanFigure_27 (fun H locs hW hS => ?_)
      refine lv_aload_n hx hb dX8_putRomanFigure_30 rfl (lv_at hl 0 rfl) ?_
      refine lv_iload_n hx hb dX8_putRomanFigure_31 rfl (lv_at hl 3 rfl) ?_
      obtain ⟨r6, qr6, h⟩ := ob h
      refine k_X8_put F ht qr6 q_898 ⟨Nat.le_of_ble_eq_true rfl, Nat.le_of_ble_eq_true rfl, Nat.le_of_ble_eq_true rfl, Nat.le_of_ble_eq_true rfl⟩ hW hS hl.1 (Nat.le_of_ble_eq_true rfl) dX8_putRomanFigure_32 (fun H locs hW hS => ?_)
      refine lv_goto (tgt := 69) hx hb dX8_putRomanFigure_35 (by decide) ?_
      cases h
      exact r_void F hr hW hS dX8_putRomanFigure_69
  · replace h := (if_pos cc).symm.trans h
    refine lv_aload_n hx hb dX8_putRomanFigure_6 rfl (lv_at hl 0 rfl) ?_
    refine lv_iload_n hx hb dX8_putRomanFigure_7 rfl (lv_at hl 2 rfl) ?_
    obtain ⟨r7, qr7, h⟩ := ob h
    refine k_X8_put F ht qr7 q_898 ⟨Nat.le_of_ble_eq_true rfl, Nat.le_of_ble_eq_true rfl, Nat.le_of_ble_eq_true rfl, Nat.le_of_ble_eq_true rfl⟩ hW hS hl.1 (Nat.le_of_ble_eq_true rfl) dX8_putRomanFigure_8 (fun H locs hW hS => ?_)
    refine lv_aload_n hx hb dX8_putRomanFigure_11 rfl (lv_at hl 0 rfl) ?_
    refine lv_iload hx hb dX8_putRomanFigure_12 (lv_at hl 4 rfl) ?_
    obtain ⟨r8, qr8, h⟩ := ob h
    refine k_X8_put F ht qr8 q_898 ⟨Nat.le_of_ble_eq_true rfl, Nat.le_of_ble_eq_true rfl, Nat.le_of_ble_eq_true rfl, Nat.le_of_ble_eq_true rfl⟩ hW hS hl.1 (Nat.le_of_ble_eq_true rfl) dX8_putRomanFigure_14 (fun H locs hW hS => ?_)
    refine lv_goto (tgt := 69) hx hb dX8_putRomanFigure_17 (by decide) ?_
    cases h
    exact r_void F hr hW hS dX8_putRomanFigure_69
set_option maxHeartbeats 4000000 in
set_option maxRecDepth 100000 in
theorem c_X8_putRomanFigure {l : Launch} {G : Gt} {b : Nat} {n : Nat} {t : Nat} {a1 : Int32} {a2 : Int32} {a3 : Int32} {a4 : Int32} {μ : Mm} {out : Mm} (ht : okTx t) (h : sh_X8_putRomanFigure n t a1 a2 a3 a4 μ = some out) : Met l yX8_putRomanFigure (wU (Cond.code yX8_putRomanFigure cX8_putRomanFigure 6 none)) ({ frames := 1, cells := 0, slots := 0, locals := 21 } : Room) (PcW G b μ [.ref (b + t), .int a1, .int a2, .int a3, .int a4]) (QW G b out none) 0 0 (fb b) :=
  met_of [.ref (b + t), .int a1, .int a2, .int a3, .int a4] (by decide) (Nat.le_of_ble_eq_true rfl) (fun F hr hW hl => wk_X8_putRomanFigure F hr ht h hW va_S.rf hl)
set_option maxHeartbeats 4000000 in
set_option maxRecDepth 100000 in
theorem k_X8_putRomanFigure {own : String} {nL : Nat} (F : FX G b own cc nL p s m args meth c) {n : Nat} {t : Nat} {a1 : Int32} {a2 : Int32} {a3 : Int32} {a4 : Int32} {μ : Mm} {out : Mm} (ht : okTx t) (h : sh_X8_putRomanFigure n t a1 a2 a3 a4 μ = some out) {index : Nat} (hl : Cond.methodLink own index yX8_putRomanFigure ∈ TBG) (hR : 1 + 1 ≤ R.frames ∧ 8 + (6 + 11) + 21 ≤ R.locals ∧ cells ≤ R.cells ∧ slots ≤ R.slots) (hW : WH G b μ H) (hS : va_S (fb b) s.heap H locs) (hsz : ls.size = nL) (hrest : (rest.map fun v => v.category).sum ≤ 8) (hdg : decode cc pc = .ok (.invokevirtual index, 3))
    (kk : ∀ (H1 : Heap) (locs1 : List Loc), WH G b out H1 → va_S (fb b) s.heap H1 locs1 → W p l e R s m args below meth c H1 locs1 cells slots Q (F0 m (pc + 3) ls (rest))) : W p l e R s m args below meth c H locs cells slots Q (F0 m pc ls (.int a4 :: .int a3 :: .int a2 :: .int a1 :: .ref (b + t) :: rest)) :=
  f_callV (As := [.int a1, .int a2, .int a3, .int a4]) (ci := 8) (c_X8_putRomanFigure ht h) ⟨rfl, rfl⟩ rfl (ky_lt ht.1 (by decide)) (wF_8 ht.1) q_930 qp_29 q_2 q_931 rfl ⟨by decide +kernel, by decide +kernel, (show (parseMethodDescriptor yX8_putRomanFigure.desc).map (fun d => d.parameters.length) = some 4 by decide +kernel)⟩ F hl hR hW hS hsz hrest rfl hdg kk
set_option maxHeartbeats 4000000 in
set_option maxRecDepth 100000 in
theorem wk_X8_putRoman {n : Nat} {t : Nat} {a1 : Int32} {μ : Mm} {out : Mm} (F : FX G b RX8 cX8_putRoman 2 p s m args meth c) (hr : meth.sig.returnType = none) (ht : okTx t) (h : sh_X8_putRoman n t a1 μ = some out) (hW : WH G b μ H) (hS : va_S (fb b) s.heap H locs) (hl : lv_has ls 2 [(0, .ref (b + t)), (1, .int a1)]) : W p l e ({ frames := 2, cells := 0, slots := 0, locals := 46 } : Room) s m args below meth c H locs 0 0 (MQ below (QW G b out none) args s 0 0 (fb b)) (F0 m 0 ls []) := by
  have hx := F.1
  have hb := F.2.1
  unfold sh_X8_putRoman at h
  refine lv_aload_n hx hb dX8_putRoman_0 rfl (lv_at hl 0 rfl) ?_
  refine lv_bipush (v := (109 : Int32)) hx hb dX8_putRoman_1 (by decide) ?_
  refine lv_iload_n hx hb dX8_putRoman_3 rfl (lv_at hl 1 rfl) ?_
  refine lv_sipush (v := (1000 : Int32)) hx hb dX8_putRoman_4 (by decide) ?_
  obtain ⟨v1, qv1, h⟩ := ob h
  obtain ⟨zv1, qv1⟩ := dv_some qv1
  refine lv_idiv hx hb dX8_putRoman_7 zv1 ?_
  rw [qv1]
  obtain ⟨r2, qr2, h⟩ := ob h
  refine k_X8_putTimes F ht qr2 q_927 ⟨Nat.le_of_ble_eq_true rfl, Nat.le_of_ble_eq_true rfl, Nat.le_of_ble_eq_true rfl, Nat.le_of_ble_eq_true rfl⟩ hW hS hl.1 (Nat.le_of_ble_eq_true rfl) dX8_putRoman_8 (fun H locs hW hS => ?_)
  refine lv_aload_n hx hb dX8_putRoman_11 rfl (lv_at hl 0 rfl) ?_
  refine lv_iload_n hx hb dX8_putRoman_12 rfl (lv_at hl 1 rfl) ?_
  refine lv_bipush (v := (100 : Int32)) hx hb dX8_putRoman_13 (by decide) ?_
  obtain ⟨v3, qv3, h⟩ := ob h
  obtain ⟨zv3, qv3⟩ := dv_some qv3
  refine lv_idiv hx hb dX8_putRoman_15 zv3 ?_
  rw [qv3]
  refine lv_bipush (v := (10 : Int32)) hx hb dX8_putRoman_16 (by decide) ?_
  obtain ⟨v4, qv4, h⟩ := ob h
  obtain ⟨zv4, qv4⟩ := rm_some qv4
  refine lv_irem hx hb dX8_putRoman_18 zv4 ?_
  rw [qv4]
  refine lv_bipush (v := (99 : Int32)) hx hb dX8_putRoman_19 (by decide) ?_
  refine lv_bipush (v := (100 : Int32)) hx hb dX8_putRoman_21 (by decide) ?_
  refine lv_bipush (v := (109 : Int32)) hx hb dX8_putRoman_23 (by decide) ?_
  obtain ⟨r5, qr5, h⟩ := ob h
  refine k_X8_putRomanFigure F ht qr5 q_928 ⟨Nat.le_of_ble_eq_true rfl, Nat.le_of_ble_eq_true rfl, Nat.le_of_ble_eq_true rfl, Nat.le_of_ble_eq_true rfl⟩ hW hS hl.1 (Nat.le_of_ble_eq_true rfl) dX8_putRoman_25 (fun H locs hW hS => ?_)
  refine lv_aload_n hx hb dX8_putRoman_28 rfl (lv_at hl 0 rfl) ?_
  refine lv_iload_n hx hb dX8_putRoman_29 rfl (lv_at hl 1 rfl) ?_
  refine lv_bipush (v := (10 : Int32)) hx hb dX8_putRoman_30 (by decide) ?_
  obtain ⟨v6, qv6, h⟩ := ob h
  obtain ⟨zv6, qv6⟩ := dv_some qv6
  refine lv_idiv hx hb dX8_putRoman_32 zv6 ?_
  rw [qv6]
  refine lv_bipush (v := (10 : Int32)) hx hb dX8_putRoman_33 (by decide) ?_
  obtain ⟨v7, qv7, h⟩ := ob h
  obtain ⟨zv7, qv7⟩ := rm_some qv7
  refine lv_irem hx hb dX8_putRoman_35 zv7 ?_
  rw [qv7]
  refine lv_bipush (v := (120 : Int32)) hx hb dX8_putRoman_36 (by decide) ?_
  refine lv_bipush (v := (108 : Int32)) hx hb dX8_putRoman_38 (by decide) ?_
  refine lv_bipush (v := (99 : Int32)) hx hb dX8_putRoman_40 (by decide) ?_
  obtain ⟨r8, qr8, h⟩ := ob h
  refine k_X8_putRomanFigure F ht qr8 q_928 ⟨Nat.le_of_ble_eq_true rfl, Nat.le_of_ble_eq_true rfl, Nat.le_of_ble_eq_true rfl, Nat.le_of_ble_eq_true rfl⟩ hW hS hl.1 (Nat.le_of_ble_eq_true rfl) dX8_putRoman_42 (fun H locs hW hS => ?_)
  refine lv_aload_n hx hb dX8_putRoman_45 rfl (lv_at hl 0 rfl) ?_
  refine lv_iload_n hx hb dX8_putRoman_46 rfl (lv_at hl 1 rfl) ?_
  refine lv_bipush (v := (10 : Int32)) hx hb dX8_putRoman_47 (by decide) ?_
  obtain ⟨v9, qv9, h⟩ := ob h
  obtain ⟨zv9, qv9⟩ := rm_some qv9
  refine lv_irem hx hb dX8_putRoman_49 zv9 ?_
  rw [qv9]
  refine lv_bipush (v := (105 : Int32)) hx hb dX8_putRoman_50 (by decide) ?_
  refine lv_bipush (v := (118 : Int32)) hx hb dX8_putRoman_52 (by decide) ?_
  refine lv_bipush (v := (120 : Int32)) hx hb dX8_putRoman_54 (by decide) ?_
  obtain ⟨r10, qr10, h⟩ := ob h
  refine k_X8_putRomanFigure F ht qr10 q_928 ⟨Nat.le_of_ble_eq_true rfl, Nat.le_of_ble_eq_true rfl, Nat.le_of_ble_eq_true rfl, Nat.le_of_ble_eq_true rfl⟩ hW hS hl.1 (Nat.le_of_ble_eq_true rfl) dX8_putRoman_56 (fun H locs hW hS => ?_)
  cases h
  exact r_void F hr hW hS dX8_putRoman_59
set_option maxHeartbeats 4000000 in
set_option maxRecDepth 100000 in
theorem c_X8_putRoman {l : Launch} {G : Gt} {b : Nat} {n : Nat} {t : Nat} {a1 : Int32} {μ : Mm} {out : Mm} (ht : okTx t) (h : sh_X8_putRoman n t a1 μ = some out) : Met l yX8_putRoman (wU (Cond.code yX8_putRoman cX8_putRoman 2 none)) ({ frames := 2, cells := 0, slots := 0, locals := 46 } : Room) (PcW G b μ [.ref (b + t), .int a1]) (QW G b out none) 0 0 (fb b) :=
  met_of [.ref (b + t), .int a1] (by decide) (Nat.le_of_ble_eq_true rfl) (fun F hr hW hl => wk_X8_putRoman F hr ht h hW va_S.rf hl)
set_option maxHeartbeats 4000000 in
set_option maxRecDepth 100000 in
theorem k_X8_putRoman {own : String} {nL : Nat} (F : FX G b own cc nL p s m args meth c) {n : Nat} {t : Nat} {a1 : Int32} {μ : Mm} {out : Mm} (ht : okTx t) (h : sh_X8_putRoman n t a1 μ = some out) {index : Nat} (hl : Cond.methodLink own index yX8_putRoman ∈ TBG) (hR : 2 + 1 ≤ R.frames ∧ 8 + (2 + 11) + 46 ≤ R.locals ∧ cells ≤ R.cells ∧ slots ≤ R.slots) (hW : WH G b μ H) (hS : va_S (fb b) s.heap H locs) (hsz : ls.size = nL) (hrest : (rest.map fun v => v.category).sum ≤ 8) (hdg : decode cc pc = .ok (.invokevirtual index, 3))
    (kk : ∀ (H1 : Heap) (locs1 : List Loc), WH G b out H1 → va_S (fb b) s.heap H1 locs1 → W p l e R s m args below meth c H1 locs1 cells slots Q (F0 m (pc + 3) ls (rest))) : W p l e R s m args below meth c H locs cells slots Q (F0 m pc ls (.int a1 :: .ref (b + t) :: rest)) :=
  f_callV (As := [.int a1]) (ci := 8) (c_X8_putRoman ht h) ⟨rfl, rfl⟩ rfl (ky_lt ht.1 (by decide)) (wF_8 ht.1) q_924 q_925 q_2 q_926 rfl ⟨by decide +kernel, by decide +kernel, (show (parseMethodDescriptor yX8_putRoman.desc).map (fun d => d.parameters.length) = some 1 by decide +kernel)⟩ F hl hR hW hS hsz hrest rfl hdg kk
set_option maxHeartbeats 4000000 in
set_option maxRecDepth 100000 in
theorem wk_X8_wordBetween_15 {n : Nat} {t : Nat} {a1 : Int32} {a2 : Int32} {μ : Mm} {out : Int64} (F : FX G b RX8 cX8_wordBetween 8 p s m args meth c) (hr : meth.sig.returnType = some .long) (ht : okTx t) : ∀ (f : Nat) (x3 : Int64) (x5 : Int32) (H : Heap) (locs : List Loc) (ls : Array Slot), sh_X8_wordBetween_15 n t a1 a2 μ f x3 x5 = some out → WH G b μ H → va_S (fb b) s.heap H locs → lv_has ls 8 [(0, .ref (b + t)), (1, .int a1), (2, .int a2), (3, .long x3), (5, .int x5)] → W p l e ({ frames := 1, cells := 0, slots := 0, locals := 21 } : Room) s m args below meth c H locs 0 0 (MQ below (QW G b μ (some (.long out))) args s 0 0 (fb b)) (F0 m 15 ls []) := by
  have hx := F.1
  have hb := F.2.1
  intro f
  induction f with
  | zero =>
    intro _ _ _ _ _ h
    rw [sh_X8_wordBetween_15] at h
    cases h
  | succ f ih =>
    intro x3 x5  H locs ls h hW hS hl
    rw [sh_X8_wordBetween_15] at h
    have hk15 := ih
    refine lv_iload hx hb dX8_wordBetween_15 (lv_at hl 4 rfl) ?_
    refine lv_iload_n hx hb dX8_wordBetween_17 rfl (lv_at hl 2 rfl) ?_
    refine lv_icmp_ge (tgt := 74) hx hb dX8_wordBetween_18 (by decide) (fun cc => ?_) (fun cc => ?_)
    · replace h := (if_pos cc).symm.trans h
      refine lv_lload_n hx hb dX8_wordBetween_74 rfl (lv_at hl 3 rfl) ?_
      cases h
      exact r_long F hr hW hS dX8_wordBetween_75
    · replace h := (if_neg cc).symm.trans h
      refine lv_aload_n hx hb dX8_wordBetween_21 rfl (lv_at hl 0 rfl) ?_
      refine lv_iload hx hb dX8_wordBetween_22 (lv_at hl 4 rfl) ?_
      obtain ⟨r2, qr2, h⟩ := ob h
      refine k_X8_at F ht qr2 q_725 ⟨Nat.le_of_ble_eq_true rfl, Nat.le_of_ble_eq_true rfl, Nat.le_of_ble_eq_true rfl, Nat.le_of_ble_eq_true rfl⟩ hW hS hl.1 (Nat.le_of_ble_eq_true rfl) dX8_wordBetween_24 (fun H locs hW hS => ?_)
      refine lv_bipush (v := (97 : Int32)) hx hb dX8_wordBetween_27 (by decide) ?_
      refine lv_isub hx hb dX8_wordBetween_29 ?_
      refine lv_iconst (v := (1 : Int32)) hx hb dX8_wordBetween_30 (by decide) ?_
      refine lv_iadd hx hb dX8_wordBetween_31 ?_
      refine lv_i2l hx hb dX8_wordBetween_32 rfl ?_
      obtain ⟨v3, ev3⟩ : ∃ y, y = ((r2 - (97 : Int32)) + (1 : Int32)).toInt64 := ⟨_, rfl⟩
      have h := nm_at ev3 h
      rw [← ev3]
      refine lv_lstore (lv' := [(6, .long v3), (0, .ref (b + t)), (1, .int a1), (2, .int a2), (3, .long x3), (5, .int x5)]) hx hb dX8_wordBetween_33 hl (by decide) rfl (fun ls hl => ?_)
      refine lv_lload hx hb dX8_wordBetween_35 (lv_at hl 0 rfl) ?_
      refine lv_lconst (v := (1 : Int64)) hx hb dX8_wordBetween_37 (by decide) ?_
      refine W.lcmp hx hb dX8_wordBetween_38 ?_
      refine lv_if_lt (tgt := 51) hx hb dX8_wordBetween_39 (by decide) (fun cc => ?_) (fun cc => ?_)
      · replace h := (if_pos cc).symm.trans h
        refine lv_lconst (v := (0 : Int64)) hx hb dX8_wordBetween_51 (by decide) ?_
        cases h
        exact r_long F hr hW hS dX8_wordBetween_52
      · replace h := (if_neg cc).symm.trans h
        refine lv_lload hx hb dX8_wordBetween_42 (lv_at hl 0 rfl) ?_
        refine lv_ldc2 hx hb F.2.2.2.1 (F.2.2.2.2.1 _ q_726) dX8_wordBetween_44 ?_
        refine W.lcmp hx hb dX8_wordBetween_47 ?_
        refine lv_if_le (tgt := 53) hx hb dX8_wordBetween_48 (by decide) (fun cc => ?_) (fun cc => ?_)
        · replace h := (if_pos cc).symm.trans h
          refine lv_lload_n hx hb dX8_wordBetween_53 rfl (lv_at hl 4 rfl) ?_
          refine lv_lload hx hb dX8_wordBetween_54 (lv_at hl 0 rfl) ?_
          refine lv_bipush (v := (55 : Int32)) hx hb dX8_wordBetween_56 (by decide) ?_
          refine lv_iconst (v := (5 : Int32)) hx hb dX8_wordBetween_58 (by decide) ?_
          refine lv_iload hx hb dX8_wordBetween_59 (lv_at hl 5 rfl) ?_
          refine lv_iload_n hx hb dX8_wordBetween_61 rfl (lv_at hl 2 rfl) ?_
          refine lv_isub hx hb dX8_wordBetween_62 ?_
          refine lv_imul hx hb dX8_wordBetween_63 ?_
          refine lv_isub hx hb dX8_wordBetween_64 ?_
          refine lv_lshl hx hb dX8_wordBetween_65 rfl ?_
          refine lv_lor hx hb dX8_wordBetween_66 ?_
          obtain ⟨v4, ev4⟩ : ∃ y, y = (x3 ||| (v3 <<< (((55 : Int32) - ((5 : Int32) * (x5 - a1))).toInt64 &&& 63))) := ⟨_, rfl⟩
          have h := nm_at ev4 h
          rw [← ev4]
          refine lv_lstore_n (lv' := [(3, .long v4), (6, .long v3), (0, .ref (b + t)), (1, .int a1), (2, .int a2), (5, .int x5)]) hx hb dX8_wordBetween_67 rfl hl (by decide) rfl (fun ls hl => ?_)
          refine lv_iinc (v := (x5 + (1 : Int32))) (lv' := [(5, .int (x5 + (1 : Int32))), (3, .long v4), (6, .long v3), (0, .ref (b + t)), (1, .int a1), (2, .int a2)]) hx hb dX8_wordBetween_68 hl (k := 5) rfl rfl (by decide) rfl (fun ls hl => ?_)
          refine lv_goto (tgt := 15) hx hb dX8_wordBetween_71 (by decide) ?_
          exact hk15 _ _ _ _ _ h hW hS (lv_sub hl [3, 4, 5, 1, 0] rfl)
        · replace h := (if_neg cc).symm.trans h
          refine lv_lconst (v := (0 : Int64)) hx hb dX8_wordBetween_51 (by decide) ?_
          cases h
          exact r_long F hr hW hS dX8_wordBetween_52
set_option maxHeartbeats 4000000 in
set_option maxRecDepth 100000 in
theorem wk_X8_wordBetween {n : Nat} {t : Nat} {a1 : Int32} {a2 : Int32} {μ : Mm} {out : Int64} (F : FX G b RX8 cX8_wordBetween 8 p s m args meth c) (hr : meth.sig.returnType = some .long) (ht : okTx t) (h : sh_X8_wordBetween n t a1 a2 μ = some out) (hW : WH G b μ H) (hS : va_S (fb b) s.heap H locs) (hl : lv_has ls 8 [(0, .ref (b + t)), (1, .int a1), (2, .int a2)]) : W p l e ({ frames := 1, cells := 0, slots := 0, locals := 21 } : Room) s m args below meth c H locs 0 0 (MQ below (QW G b μ (some (.long out))) args s 0 0 (fb b)) (F0 m 0 ls []) := by
  have hx := F.1
  have hb := F.2.1
  unfold sh_X8_wordBetween at h
  refine lv_iload_n hx hb dX8_wordBetween_0 rfl (lv_at hl 2 rfl) ?_
  refine lv_iload_n hx hb dX8_wordBetween_1 rfl (lv_at hl 1 rfl) ?_
  refine lv_isub hx hb dX8_wordBetween_2 ?_
  refine lv_bipush (v := (12 : Int32)) hx hb dX8_wordBetween_3 (by decide) ?_
  refine lv_icmp_le (tgt := 10) hx hb dX8_wordBetween_5 (by decide) (fun cc => ?_) (fun cc => ?_)
  · replace h := (if_pos cc).symm.trans h
    refine lv_lconst (v := (0 : Int64)) hx hb dX8_wordBetween_10 (by decide) ?_
    obtain ⟨v1, ev1⟩ : ∃ y, y = (0 : Int64) := ⟨_, rfl⟩
    have h := nm_at ev1 h
    rw [← ev1]
    refine lv_lstore_n (lv' := [(3, .long v1), (0, .ref (b + t)), (1, .int a1), (2, .int a2)]) hx hb dX8_wordBetween_11 rfl hl (by decide) rfl (fun ls hl => ?_)
    refine lv_iload_n hx hb dX8_wordBetween_12 rfl (lv_at hl 2 rfl) ?_
    refine lv_istore (lv' := [(5, .int a1), (3, .long v1), (0, .ref (b + t)), (1, .int a1), (2, .int a2)]) hx hb dX8_wordBetween_13 hl (by decide) rfl (fun ls hl => ?_)
    exact wk_X8_wordBetween_15 F hr ht n _ _ _ _ _ h hW hS (lv_sub hl [2, 3, 4, 1, 0] rfl)
  · replace h := (if_neg cc).symm.trans h
    refine lv_lconst (v := (0 : Int64)) hx hb dX8_wordBetween_8 (by decide) ?_
    cases h
    exact r_long F hr hW hS dX8_wordBetween_9
set_option maxHeartbeats 4000000 in
set_option maxRecDepth 100000 in
theorem c_X8_wordBetween {l : Launch} {G : Gt} {b : Nat} {n : Nat} {t : Nat} {a1 : Int32} {a2 : Int32} {μ : Mm} {out : Int64} (ht : okTx t) (h : sh_X8_wordBetween n t a1 a2 μ = some out) : Met l yX8_wordBetween (wU (Cond.code yX8_wordBetween cX8_wordBetween 8 (some .long))) ({ frames := 1, cells := 0, slots := 0, locals := 21 } : Room) (PcW G b μ [.ref (b + t), .int a1, .int a2]) (QW G b μ (some (.long out))) 0 0 (fb b) :=
  met_of [.ref (b + t), .int a1, .int a2] (by decide) (Nat.le_of_ble_eq_true rfl) (fun F hr hW hl => wk_X8_wordBetween F hr ht h hW va_S.rf hl)
set_option maxHeartbeats 4000000 in
set_option maxRecDepth 100000 in
theorem k_X8_wordBetween {own : String} {nL : Nat} (F : FX G b own cc nL p s m args meth c) {n : Nat} {t : Nat} {a1 : Int32} {a2 : Int32} {μ : Mm} {out : Int64} (ht : okTx t) (h : sh_X8_wordBetween n t a1 a2 μ = some out) {index : Nat} (hl : Cond.methodLink own index yX8_wordBetween ∈ TBG) (hR : 1 + 1 ≤ R.frames ∧ 8 + (8 + 11) + 21 ≤ R.locals ∧ cells ≤ R.cells ∧ slots ≤ R.slots) (hW : WH G b μ H) (hS : va_S (fb b) s.heap H locs) (hsz : ls.size = nL) (hrest : (rest.map fun v => v.category).sum ≤ 8) (hdg : decode cc pc = .ok (.invokevirtual index, 3))
    (kk : ∀ (H1 : Heap) (locs1 : List Loc), WH G b μ H1 → va_S (fb b) s.heap H1 locs1 → W p l e R s m args below meth c H1 locs1 cells slots Q (F0 m (pc + 3) ls (.long out :: rest))) : W p l e R s m args below meth c H locs cells slots Q (F0 m pc ls (.int a2 :: .int a1 :: .ref (b + t) :: rest)) :=
  f_callV (As := [.int a1, .int a2]) (ci := 8) (c_X8_wordBetween ht h) ⟨rfl, rfl⟩ rfl (ky_lt ht.1 (by decide)) (wF_8 ht.1) q_722 q_723 q_2 q_724 rfl ⟨by decide +kernel, by decide +kernel, (show (parseMethodDescriptor yX8_wordBetween.desc).map (fun d => d.parameters.length) = some 2 by decide +kernel)⟩ F hl hR hW hS hsz hrest rfl hdg kk
set_option maxHeartbeats 4000000 in
set_option maxRecDepth 100000 in
theorem wk_X8_isLike_15 {n : Nat} {t : Nat} {a1 : Nat} {μ : Mm} {out : Int32} (F : FX G b RX8 cX8_isLike 3 p s m args meth c) (hr : meth.sig.returnType = some .boolean) (ht : okTx t) (ha1 : okTx a1) : ∀ (f : Nat) (x2 : Int32) (H : Heap) (locs : List Loc) (ls : Array Slot), sh_X8_isLike_15 n t a1 μ f x2 = some out → WH G b μ H → va_S (fb b) s.heap H locs → lv_has ls 3 [(0, .ref (b + t)), (1, .ref (b + a1)), (2, .int x2)] → W p l e ({ frames := 1, cells := 0, slots := 0, locals := 21 } : Room) s m args below meth c H locs 0 0 (MQ below (QW G b μ (some (.int out))) args s 0 0 (fb b)) (F0 m 15 ls []) := by
  have hx := F.1
  have hb := F.2.1
  intro f
  induction f with
  | zero =>
    intro _ _ _ _ h
    rw [sh_X8_isLike_15] at h
    cases h
  | succ f ih =>
    intro x2  H locs ls h hW hS hl
    rw [sh_X8_isLike_15] at h
    have hk15 := ih
    refine lv_iload_n hx hb dX8_isLike_15 rfl (lv_at hl 2 rfl) ?_
    refine lv_aload_n hx hb dX8_isLike_16 rfl (lv_at hl 0 rfl) ?_
    refine fl_get8 (v := .int (μ.1 t 1)) (ht).1 F hW 1 (by decide) q_46 rfl rfl dX8_isLike_17 ?_
    refine lv_icmp_ge (tgt := 44) hx hb dX8_isLike_20 (by decide) (fun cc => ?_) (fun cc => ?_)
    · replace h := (if_pos cc).symm.trans h
      refine lv_iconst (v := (1 : Int32)) hx hb dX8_isLike_44 (by decide) ?_
      cases h
      exact r_bool F hr (Or.inr rfl) hW hS dX8_isLike_45
    · replace h := (if_neg cc).symm.trans h
      refine lv_aload_n hx hb dX8_isLike_23 rfl (lv_at hl 0 rfl) ?_
      refine lv_iload_n hx hb dX8_isLike_24 rfl (lv_at hl 2 rfl) ?_
      obtain ⟨r1, qr1, h⟩ := ob h
      refine k_X8_at F ht qr1 q_725 ⟨Nat.le_of_ble_eq_true rfl, Nat.le_of_ble_eq_true rfl, Nat.le_of_ble_eq_true rfl, Nat.le_of_ble_eq_true rfl⟩ hW hS hl.1 (Nat.le_of_ble_eq_true rfl) dX8_isLike_25 (fun H locs hW hS => ?_)
      refine lv_aload_n hx hb dX8_isLike_28 rfl (lv_at hl 1 rfl) ?_
      refine lv_iload_n hx hb dX8_isLike_29 rfl (lv_at hl 2 rfl) ?_
      obtain ⟨r2, qr2, h⟩ := ob h
      refine k_X8_at F ha1 qr2 q_725 ⟨Nat.le_of_ble_eq_true rfl, Nat.le_of_ble_eq_true rfl, Nat.le_of_ble_eq_true rfl, Nat.le_of_ble_eq_true rfl⟩ hW hS hl.1 (Nat.le_of_ble_eq_true rfl) dX8_isLike_30 (fun H locs hW hS => ?_)
      refine lv_icmp_eq (tgt := 38) hx hb dX8_isLike_33 (by decide) (fun cc => ?_) (fun cc => ?_)
      · replace h := (if_pos cc).symm.trans h
        refine lv_iinc (v := (x2 + (1 : Int32))) (lv' := [(2, .int (x2 + (1 : Int32))), (0, .ref (b + t)), (1, .ref (b + a1))]) hx hb dX8_isLike_38 hl (k := 2) rfl rfl (by decide) rfl (fun ls hl => ?_)
        refine lv_goto (tgt := 15) hx hb dX8_isLike_41 (by decide) ?_
        exact hk15 _ _ _ _ h hW hS (lv_sub hl [1, 2, 0] rfl)
      · replace h := (if_neg cc).symm.trans h
        refine lv_iconst (v := (0 : Int32)) hx hb dX8_isLike_36 (by decide) ?_
        cases h
        exact r_bool F hr (Or.inl rfl) hW hS dX8_isLike_37
set_option maxHeartbeats 4000000 in
set_option maxRecDepth 100000 in
theorem wk_X8_isLike {n : Nat} {t : Nat} {a1 : Nat} {μ : Mm} {out : Int32} (F : FX G b RX8 cX8_isLike 3 p s m args meth c) (hr : meth.sig.returnType = some .boolean) (ht : okTx t) (ha1 : okTx a1) (h : sh_X8_isLike n t a1 μ = some out) (hW : WH G b μ H) (hS : va_S (fb b) s.heap H locs) (hl : lv_has ls 3 [(0, .ref (b + t)), (1, .ref (b + a1))]) : W p l e ({ frames := 1, cells := 0, slots := 0, locals := 21 } : Room) s m args below meth c H locs 0 0 (MQ below (QW G b μ (some (.int out))) args s 0 0 (fb b)) (F0 m 0 ls []) := by
  have hx := F.1
  have hb := F.2.1
  unfold sh_X8_isLike at h
  refine lv_aload_n hx hb dX8_isLike_0 rfl (lv_at hl 0 rfl) ?_
  refine fl_get8 (v := .int (μ.1 t 1)) (ht).1 F hW 1 (by decide) q_46 rfl rfl dX8_isLike_1 ?_
  refine lv_aload_n hx hb dX8_isLike_4 rfl (lv_at hl 1 rfl) ?_
  refine fl_get8 (v := .int (μ.1 a1 1)) (ha1).1 F hW 1 (by decide) q_46 rfl rfl dX8_isLike_5 ?_
  refine lv_icmp_eq (tgt := 13) hx hb dX8_isLike_8 (by decide) (fun cc => ?_) (fun cc => ?_)
  · replace h := (if_pos cc).symm.trans h
    refine lv_iconst (v := (0 : Int32)) hx hb dX8_isLike_13 (by decide) ?_
    refine lv_istore_n (lv' := [(2, .int (0 : Int32)), (0, .ref (b + t)), (1, .ref (b + a1))]) hx hb dX8_isLike_14 rfl hl (by decide) rfl (fun ls hl => ?_)
    exact wk_X8_isLike_15 F hr ht ha1 n _ _ _ _ h hW hS (lv_sub hl [1, 2, 0] rfl)
  · replace h := (if_neg cc).symm.trans h
    refine lv_iconst (v := (0 : Int32)) hx hb dX8_isLike_11 (by decide) ?_
    cases h
    exact r_bool F hr (Or.inl rfl) hW hS dX8_isLike_12
set_option maxHeartbeats 4000000 in
set_option maxRecDepth 100000 in
theorem c_X8_isLike {l : Launch} {G : Gt} {b : Nat} {n : Nat} {t : Nat} {a1 : Nat} {μ : Mm} {out : Int32} (ht : okTx t) (ha1 : okTx a1) (h : sh_X8_isLike n t a1 μ = some out) : Met l yX8_isLike (wU (Cond.code yX8_isLike cX8_isLike 3 (some .boolean))) ({ frames := 1, cells := 0, slots := 0, locals := 21 } : Room) (PcW G b μ [.ref (b + t), .ref (b + a1)]) (QW G b μ (some (.int out))) 0 0 (fb b) :=
  met_of [.ref (b + t), .ref (b + a1)] (by decide) (Nat.le_of_ble_eq_true rfl) (fun F hr hW hl => wk_X8_isLike F hr ht ha1 h hW va_S.rf hl)
set_option maxHeartbeats 4000000 in
set_option maxRecDepth 100000 in
theorem k_X8_isLike {own : String} {nL : Nat} (F : FX G b own cc nL p s m args meth c) {n : Nat} {t : Nat} {a1 : Nat} {μ : Mm} {out : Int32} (ht : okTx t) (ha1 : okTx a1) (h : sh_X8_isLike n t a1 μ = some out) {index : Nat} (hl : Cond.methodLink own index yX8_isLike ∈ TBG) (hR : 1 + 1 ≤ R.frames ∧ 8 + (3 + 11) + 21 ≤ R.locals ∧ cells ≤ R.cells ∧ slots ≤ R.slots) (hW : WH G b μ H) (hS : va_S (fb b) s.heap H locs) (hsz : ls.size = nL) (hrest : (rest.map fun v => v.category).sum ≤ 8) (hdg : decode cc pc = .ok (.invokevirtual index, 3))
    (kk : ∀ (H1 : Heap) (locs1 : List Loc), WH G b μ H1 → va_S (fb b) s.heap H1 locs1 → W p l e R s m args below meth c H1 locs1 cells slots Q (F0 m (pc + 3) ls (.int out :: rest))) : W p l e R s m args below meth c H locs cells slots Q (F0 m pc ls (.ref (b + a1) :: .ref (b + t) :: rest)) :=
  f_callV (As := [.ref (b + a1)]) (ci := 8) (c_X8_isLike ht ha1 h) ⟨rfl, rfl⟩ rfl (ky_lt ht.1 (by decide)) (wF_8 ht.1) q_933 q_934 q_2 q_935 rfl ⟨by decide +kernel, by decide +kernel, (show (parseMethodDescriptor yX8_isLike.desc).map (fun d => d.parameters.length) = some 1 by decide +kernel)⟩ F hl hR hW hS hsz hrest rfl hdg kk
set_option maxHeartbeats 4000000 in
set_option maxRecDepth 100000 in
theorem wk_X0_empty {t : Nat} {μ : Mm} {out : Mm} (F : FX G b RX0 cX0_empty 1 p s m args meth c) (hr : meth.sig.returnType = none) (ht : okBk t) (h : sh_X0_empty t μ = some out) (hW : WH G b μ H) (hS : va_S (fb b) s.heap H locs) (hl : lv_has ls 1 [(0, .ref (b + t))]) : W p l e ({ frames := 1, cells := 0, slots := 0, locals := 22 } : Room) s m args below meth c H locs 0 0 (MQ below (QW G b out none) args s 0 0 (fb b)) (F0 m 0 ls []) := by
  have hx := F.1
  have hb := F.2.1
  unfold sh_X0_empty at h
  refine lv_aload_n hx hb dX0_empty_0 rfl (lv_at hl 0 rfl) ?_
  refine fl_get0 (v := .ref (b + (t + 1))) (ht).1 F hW 0 (by decide) q_148 rfl rfl dX0_empty_1 ?_
  refine lv_iconst (v := (0 : Int32)) hx hb dX0_empty_4 (by decide) ?_
  refine lv_bipush (v := (60 : Int32)) hx hb dX0_empty_5 (by decide) ?_
  obtain ⟨r1, qr1, h⟩ := ob h
  refine k_X5_put F (ht).2.1 qr1 q_144 ⟨Nat.le_of_ble_eq_true rfl, Nat.le_of_ble_eq_true rfl, Nat.le_of_ble_eq_true rfl, Nat.le_of_ble_eq_true rfl⟩ hW hS hl.1 (Nat.le_of_ble_eq_true rfl) dX0_empty_7 (fun H locs hW hS => ?_)
  refine lv_aload_n hx hb dX0_empty_10 rfl (lv_at hl 0 rfl) ?_
  refine fl_get0 (v := .ref (b + (t + 1))) (ht).1 F hW 0 (by decide) q_148 rfl rfl dX0_empty_11 ?_
  refine lv_iconst (v := (1 : Int32)) hx hb dX0_empty_14 (by decide) ?_
  refine lv_bipush (v := (40 : Int32)) hx hb dX0_empty_15 (by decide) ?_
  obtain ⟨r2, qr2, h⟩ := ob h
  refine k_X5_put F (ht).2.1 qr2 q_144 ⟨Nat.le_of_ble_eq_true rfl, Nat.le_of_ble_eq_true rfl, Nat.le_of_ble_eq_true rfl, Nat.le_of_ble_eq_true rfl⟩ hW hS hl.1 (Nat.le_of_ble_eq_true rfl) dX0_empty_17 (fun H locs hW hS => ?_)
  refine lv_aload_n hx hb dX0_empty_20 rfl (lv_at hl 0 rfl) ?_
  refine fl_get0 (v := .ref (b + (t + 1))) (ht).1 F hW 0 (by decide) q_148 rfl rfl dX0_empty_21 ?_
  refine lv_iconst (v := (2 : Int32)) hx hb dX0_empty_24 (by decide) ?_
  refine lv_bipush (v := (40 : Int32)) hx hb dX0_empty_25 (by decide) ?_
  obtain ⟨r3, qr3, h⟩ := ob h
  refine k_X5_put F (ht).2.1 qr3 q_144 ⟨Nat.le_of_ble_eq_true rfl, Nat.le_of_ble_eq_true rfl, Nat.le_of_ble_eq_true rfl, Nat.le_of_ble_eq_true rfl⟩ hW hS hl.1 (Nat.le_of_ble_eq_true rfl) dX0_empty_27 (fun H locs hW hS => ?_)
  refine lv_aload_n hx hb dX0_empty_30 rfl (lv_at hl 0 rfl) ?_
  refine fl_get0 (v := .ref (b + (t + 1))) (ht).1 F hW 0 (by decide) q_148 rfl rfl dX0_empty_31 ?_
  refine lv_iconst (v := (3 : Int32)) hx hb dX0_empty_34 (by decide) ?_
  refine lv_iconst (v := (2 : Int32)) hx hb dX0_empty_35 (by decide) ?_
  obtain ⟨r4, qr4, h⟩ := ob h
  refine k_X5_put F (ht).2.1 qr4 q_144 ⟨Nat.le_of_ble_eq_true rfl, Nat.le_of_ble_eq_true rfl, Nat.le_of_ble_eq_true rfl, Nat.le_of_ble_eq_true rfl⟩ hW hS hl.1 (Nat.le_of_ble_eq_true rfl) dX0_empty_36 (fun H locs hW hS => ?_)
  refine lv_aload_n hx hb dX0_empty_39 rfl (lv_at hl 0 rfl) ?_
  refine fl_get0 (v := .ref (b + (t + 1))) (ht).1 F hW 0 (by decide) q_148 rfl rfl dX0_empty_40 ?_
  refine lv_iconst (v := (4 : Int32)) hx hb dX0_empty_43 (by decide) ?_
  refine lv_iconst (v := (3 : Int32)) hx hb dX0_empty_44 (by decide) ?_
  obtain ⟨r5, qr5, h⟩ := ob h
  refine k_X5_put F (ht).2.1 qr5 q_144 ⟨Nat.le_of_ble_eq_true rfl, Nat.le_of_ble_eq_true rfl, Nat.le_of_ble_eq_true rfl, Nat.le_of_ble_eq_true rfl⟩ hW hS hl.1 (Nat.le_of_ble_eq_true rfl) dX0_empty_45 (fun H locs hW hS => ?_)
  refine lv_aload_n hx hb dX0_empty_48 rfl (lv_at hl 0 rfl) ?_
  refine fl_get0 (v := .ref (b + (t + 1))) (ht).1 F hW 0 (by decide) q_148 rfl rfl dX0_empty_49 ?_
  refine lv_iconst (v := (5 : Int32)) hx hb dX0_empty_52 (by decide) ?_
  refine lv_iconst (v := (1 : Int32)) hx hb dX0_empty_53 (by decide) ?_
  obtain ⟨r6, qr6, h⟩ := ob h
  refine k_X5_put F (ht).2.1 qr6 q_144 ⟨Nat.le_of_ble_eq_true rfl, Nat.le_of_ble_eq_true rfl, Nat.le_of_ble_eq_true rfl, Nat.le_of_ble_eq_true rfl⟩ hW hS hl.1 (Nat.le_of_ble_eq_true rfl) dX0_empty_54 (fun H locs hW hS => ?_)
  refine lv_aload_n hx hb dX0_empty_57 rfl (lv_at hl 0 rfl) ?_
  refine fl_get0 (v := .ref (b + (t + 1))) (ht).1 F hW 0 (by decide) q_148 rfl rfl dX0_empty_58 ?_
  refine lv_bipush (v := (6 : Int32)) hx hb dX0_empty_61 (by decide) ?_
  refine lv_iconst (v := (2 : Int32)) hx hb dX0_empty_63 (by decide) ?_
  obtain ⟨r7, qr7, h⟩ := ob h
  refine k_X5_put F (ht).2.1 qr7 q_144 ⟨Nat.le_of_ble_eq_true rfl, Nat.le_of_ble_eq_true rfl, Nat.le_of_ble_eq_true rfl, Nat.le_of_ble_eq_true rfl⟩ hW hS hl.1 (Nat.le_of_ble_eq_true rfl) dX0_empty_64 (fun H locs hW hS => ?_)
  refine lv_aload_n hx hb dX0_empty_67 rfl (lv_at hl 0 rfl) ?_
  refine fl_get0 (v := .ref (b + (t + 1))) (ht).1 F hW 0 (by decide) q_148 rfl rfl dX0_empty_68 ?_
  refine lv_bipush (v := (7 : Int32)) hx hb dX0_empty_71 (by decide) ?_
  refine lv_iconst (v := (3 : Int32)) hx hb dX0_empty_73 (by decide) ?_
  obtain ⟨r8, qr8, h⟩ := ob h
  refine k_X5_put F (ht).2.1 qr8 q_144 ⟨Nat.le_of_ble_eq_true rfl, Nat.le_of_ble_eq_true rfl, Nat.le_of_ble_eq_true rfl, Nat.le_of_ble_eq_true rfl⟩ hW hS hl.1 (Nat.le_of_ble_eq_true rfl) dX0_empty_74 (fun H locs hW hS => ?_)
  refine lv_aload_n hx hb dX0_empty_77 rfl (lv_at hl 0 rfl) ?_
  refine lv_iconst (v := (0 : Int32)) hx hb dX0_empty_78 (by decide) ?_
  obtain ⟨μ9, hmμ9, h⟩ := ob h
  refine fl_put0_1 (ht).1 F hW hS q_155 hmμ9 dX0_empty_79 (fun H locs hW hS => ?_)
  refine lv_aload_n hx hb dX0_empty_82 rfl (lv_at hl 0 rfl) ?_
  refine lv_iconst (v := (0 : Int32)) hx hb dX0_empty_83 (by decide) ?_
  obtain ⟨μ10, hmμ10, h⟩ := ob h
  refine fl_put0_2 (ht).1 F hW hS q_162 hmμ10 dX0_empty_84 (fun H locs hW hS => ?_)
  refine lv_aload_n hx hb dX0_empty_87 rfl (lv_at hl 0 rfl) ?_
  refine lv_iconst (v := (0 : Int32)) hx hb dX0_empty_88 (by decide) ?_
  obtain ⟨μ11, hmμ11, h⟩ := ob h
  refine fl_put0_3 (ht).1 F hW hS q_167 hmμ11 dX0_empty_89 (fun H locs hW hS => ?_)
  cases h
  exact r_void F hr hW hS dX0_empty_92
set_option maxHeartbeats 4000000 in
set_option maxRecDepth 100000 in
theorem c_X0_empty {l : Launch} {G : Gt} {b : Nat} {t : Nat} {μ : Mm} {out : Mm} (ht : okBk t) (h : sh_X0_empty t μ = some out) : Met l yX0_empty (wU (Cond.code yX0_empty cX0_empty 1 none)) ({ frames := 1, cells := 0, slots := 0, locals := 22 } : Room) (PcW G b μ [.ref (b + t)]) (QW G b out none) 0 0 (fb b) :=
  met_of [.ref (b + t)] (by decide) (Nat.le_of_ble_eq_true rfl) (fun F hr hW hl => wk_X0_empty F hr ht h hW va_S.rf hl)
set_option maxHeartbeats 4000000 in
set_option maxRecDepth 100000 in
theorem k_X0_empty {own : String} {nL : Nat} (F : FX G b own cc nL p s m args meth c) {t : Nat} {μ : Mm} {out : Mm} (ht : okBk t) (h : sh_X0_empty t μ = some out) {index : Nat} (hl : Cond.methodLink own index yX0_empty ∈ TBG) (hR : 1 + 1 ≤ R.frames ∧ 8 + (1 + 11) + 22 ≤ R.locals ∧ cells ≤ R.cells ∧ slots ≤ R.slots) (hW : WH G b μ H) (hS : va_S (fb b) s.heap H locs) (hsz : ls.size = nL) (hrest : (rest.map fun v => v.category).sum ≤ 8) (hdg : decode cc pc = .ok (.invokevirtual index, 3))
    (kk : ∀ (H1 : Heap) (locs1 : List Loc), WH G b out H1 → va_S (fb b) s.heap H1 locs1 → W p l e R s m args below meth c H1 locs1 cells slots Q (F0 m (pc + 3) ls (rest))) : W p l e R s m args below meth c H locs cells slots Q (F0 m pc ls (.ref (b + t) :: rest)) :=
  f_callV (As := []) (ci := 0) (c_X0_empty ht h) ⟨rfl, rfl⟩ rfl (ky_lt ht.1 (by decide)) (wF_0 ht.1) q_141 q_142 q_7 q_143 rfl ⟨by decide +kernel, by decide +kernel, (show (parseMethodDescriptor yX0_empty.desc).map (fun d => d.parameters.length) = some 0 by decide +kernel)⟩ F hl hR hW hS hsz hrest rfl hdg kk
set_option maxHeartbeats 4000000 in
set_option maxRecDepth 100000 in
theorem wk_X0_take {t : Nat} {a1 : Nat} {μ : Mm} {out : Mm} (F : FX G b RX0 cX0_take 2 p s m args meth c) (hr : meth.sig.returnType = none) (ht : okBk t) (ha1 : okBk a1) (h : sh_X0_take t a1 μ = some out) (hW : WH G b μ H) (hS : va_S (fb b) s.heap H locs) (hl : lv_has ls 2 [(0, .ref (b + t)), (1, .ref (b + a1))]) : W p l e ({ frames := 2, cells := 0, slots := 0, locals := 69 } : Room) s m args below meth c H locs 0 0 (MQ below (QW G b out none) args s 0 0 (fb b)) (F0 m 0 ls []) := by
  have hx := F.1
  have hb := F.2.1
  unfold sh_X0_take at h
  refine lv_aload_n hx hb dX0_take_0 rfl (lv_at hl 0 rfl) ?_
  refine fl_get0 (v := .ref (b + (t + 1))) (ht).1 F hW 0 (by decide) q_148 rfl rfl dX0_take_1 ?_
  refine lv_aload_n hx hb dX0_take_4 rfl (lv_at hl 1 rfl) ?_
  refine fl_get0 (v := .ref (b + (a1 + 1))) (ha1).1 F hW 0 (by decide) q_148 rfl rfl dX0_take_5 ?_
  obtain ⟨r1, qr1, h⟩ := ob h
  refine k_X5_take F (ht).2.1 (ha1).2.1 qr1 q_777 ⟨Nat.le_of_ble_eq_true rfl, Nat.le_of_ble_eq_true rfl, Nat.le_of_ble_eq_true rfl, Nat.le_of_ble_eq_true rfl⟩ hW hS hl.1 (Nat.le_of_ble_eq_true rfl) dX0_take_8 (fun H locs hW hS => ?_)
  refine lv_aload_n hx hb dX0_take_11 rfl (lv_at hl 0 rfl) ?_
  refine lv_aload_n hx hb dX0_take_12 rfl (lv_at hl 1 rfl) ?_
  refine fl_get0 (v := .int (r1.1 a1 1)) (ha1).1 F hW 1 (by decide) q_155 rfl rfl dX0_take_13 ?_
  obtain ⟨μ2, hmμ2, h⟩ := ob h
  refine fl_put0_1 (ht).1 F hW hS q_155 hmμ2 dX0_take_16 (fun H locs hW hS => ?_)
  refine lv_aload_n hx hb dX0_take_19 rfl (lv_at hl 0 rfl) ?_
  refine lv_aload_n hx hb dX0_take_20 rfl (lv_at hl 1 rfl) ?_
  refine fl_get0 (v := .int (μ2.1 a1 2)) (ha1).1 F hW 2 (by decide) q_162 rfl rfl dX0_take_21 ?_
  obtain ⟨μ3, hmμ3, h⟩ := ob h
  refine fl_put0_2 (ht).1 F hW hS q_162 hmμ3 dX0_take_24 (fun H locs hW hS => ?_)
  refine lv_aload_n hx hb dX0_take_27 rfl (lv_at hl 0 rfl) ?_
  refine lv_aload_n hx hb dX0_take_28 rfl (lv_at hl 1 rfl) ?_
  refine fl_get0 (v := .int (μ3.1 a1 3)) (ha1).1 F hW 3 (by decide) q_167 rfl rfl dX0_take_29 ?_
  obtain ⟨μ4, hmμ4, h⟩ := ob h
  refine fl_put0_3 (ht).1 F hW hS q_167 hmμ4 dX0_take_32 (fun H locs hW hS => ?_)
  refine lv_aload_n hx hb dX0_take_35 rfl (lv_at hl 0 rfl) ?_
  refine fl_get0 (v := .ref (b + (t + 3))) (ht).1 F hW 4 (by decide) q_169 rfl rfl dX0_take_36 ?_
  refine lv_aload_n hx hb dX0_take_39 rfl (lv_at hl 1 rfl) ?_
  refine fl_get0 (v := .ref (b + (a1 + 3))) (ha1).1 F hW 4 (by decide) q_169 rfl rfl dX0_take_40 ?_
  obtain ⟨r5, qr5, h⟩ := ob h
  refine k_X5_take F (ht).2.2.1 (ha1).2.2.1 qr5 q_777 ⟨Nat.le_of_ble_eq_true rfl, Nat.le_of_ble_eq_true rfl, Nat.le_of_ble_eq_true rfl, Nat.le_of_ble_eq_true rfl⟩ hW hS hl.1 (Nat.le_of_ble_eq_true rfl) dX0_take_43 (fun H locs hW hS => ?_)
  refine lv_aload_n hx hb dX0_take_46 rfl (lv_at hl 0 rfl) ?_
  refine fl_get0 (v := .ref (b + (t + 5))) (ht).1 F hW 5 (by decide) q_176 rfl rfl dX0_take_47 ?_
  refine lv_aload_n hx hb dX0_take_50 rfl (lv_at hl 1 rfl) ?_
  refine fl_get0 (v := .ref (b + (a1 + 5))) (ha1).1 F hW 5 (by decide) q_176 rfl rfl dX0_take_51 ?_
  obtain ⟨r6, qr6, h⟩ := ob h
  refine k_X5_take F (ht).2.2.2.1 (ha1).2.2.2.1 qr6 q_777 ⟨Nat.le_of_ble_eq_true rfl, Nat.le_of_ble_eq_true rfl, Nat.le_of_ble_eq_true rfl, Nat.le_of_ble_eq_true rfl⟩ hW hS hl.1 (Nat.le_of_ble_eq_true rfl) dX0_take_54 (fun H locs hW hS => ?_)
  refine lv_aload_n hx hb dX0_take_57 rfl (lv_at hl 0 rfl) ?_
  refine fl_get0 (v := .ref (b + (t + 7))) (ht).1 F hW 6 (by decide) q_180 rfl rfl dX0_take_58 ?_
  refine lv_aload_n hx hb dX0_take_61 rfl (lv_at hl 1 rfl) ?_
  refine fl_get0 (v := .ref (b + (a1 + 7))) (ha1).1 F hW 6 (by decide) q_180 rfl rfl dX0_take_62 ?_
  obtain ⟨r7, qr7, h⟩ := ob h
  refine k_X5_take F (ht).2.2.2.2.1 (ha1).2.2.2.2.1 qr7 q_777 ⟨Nat.le_of_ble_eq_true rfl, Nat.le_of_ble_eq_true rfl, Nat.le_of_ble_eq_true rfl, Nat.le_of_ble_eq_true rfl⟩ hW hS hl.1 (Nat.le_of_ble_eq_true rfl) dX0_take_65 (fun H locs hW hS => ?_)
  refine lv_aload_n hx hb dX0_take_68 rfl (lv_at hl 0 rfl) ?_
  refine fl_get0 (v := .ref (b + (t + 9))) (ht).1 F hW 7 (by decide) q_185 rfl rfl dX0_take_69 ?_
  refine lv_aload_n hx hb dX0_take_72 rfl (lv_at hl 1 rfl) ?_
  refine fl_get0 (v := .ref (b + (a1 + 9))) (ha1).1 F hW 7 (by decide) q_185 rfl rfl dX0_take_73 ?_
  obtain ⟨r8, qr8, h⟩ := ob h
  refine k_X9_take F (ht).2.2.2.2.2.1 (ha1).2.2.2.2.2.1 qr8 q_782 ⟨Nat.le_of_ble_eq_true rfl, Nat.le_of_ble_eq_true rfl, Nat.le_of_ble_eq_true rfl, Nat.le_of_ble_eq_true rfl⟩ hW hS hl.1 (Nat.le_of_ble_eq_true rfl) dX0_take_76 (fun H locs hW hS => ?_)
  refine lv_aload_n hx hb dX0_take_79 rfl (lv_at hl 0 rfl) ?_
  refine fl_get0 (v := .ref (b + (t + 11))) (ht).1 F hW 8 (by decide) q_189 rfl rfl dX0_take_80 ?_
  refine lv_aload_n hx hb dX0_take_83 rfl (lv_at hl 1 rfl) ?_
  refine fl_get0 (v := .ref (b + (a1 + 11))) (ha1).1 F hW 8 (by decide) q_189 rfl rfl dX0_take_84 ?_
  obtain ⟨r9, qr9, h⟩ := ob h
  refine k_X5_take F (ht).2.2.2.2.2.2 (ha1).2.2.2.2.2.2 qr9 q_777 ⟨Nat.le_of_ble_eq_true rfl, Nat.le_of_ble_eq_true rfl, Nat.le_of_ble_eq_true rfl, Nat.le_of_ble_eq_true rfl⟩ hW hS hl.1 (Nat.le_of_ble_eq_true rfl) dX0_take_87 (fun H locs hW hS => ?_)
  cases h
  exact r_void F hr hW hS dX0_take_90
set_option maxHeartbeats 4000000 in
set_option maxRecDepth 100000 in
theorem c_X0_take {l : Launch} {G : Gt} {b : Nat} {t : Nat} {a1 : Nat} {μ : Mm} {out : Mm} (ht : okBk t) (ha1 : okBk a1) (h : sh_X0_take t a1 μ = some out) : Met l yX0_take (wU (Cond.code yX0_take cX0_take 2 none)) ({ frames := 2, cells := 0, slots := 0, locals := 69 } : Room) (PcW G b μ [.ref (b + t), .ref (b + a1)]) (QW G b out none) 0 0 (fb b) :=
  met_of [.ref (b + t), .ref (b + a1)] (by decide) (Nat.le_of_ble_eq_true rfl) (fun F hr hW hl => wk_X0_take F hr ht ha1 h hW va_S.rf hl)
set_option maxHeartbeats 4000000 in
set_option maxRecDepth 100000 in
theorem k_X0_take {own : String} {nL : Nat} (F : FX G b own cc nL p s m args meth c) {t : Nat} {a1 : Nat} {μ : Mm} {out : Mm} (ht : okBk t) (ha1 : okBk a1) (h : sh_X0_take t a1 μ = some out) {index : Nat} (hl : Cond.methodLink own index yX0_take ∈ TBG) (hR : 2 + 1 ≤ R.frames ∧ 8 + (2 + 11) + 69 ≤ R.locals ∧ cells ≤ R.cells ∧ slots ≤ R.slots) (hW : WH G b μ H) (hS : va_S (fb b) s.heap H locs) (hsz : ls.size = nL) (hrest : (rest.map fun v => v.category).sum ≤ 8) (hdg : decode cc pc = .ok (.invokevirtual index, 3))
    (kk : ∀ (H1 : Heap) (locs1 : List Loc), WH G b out H1 → va_S (fb b) s.heap H1 locs1 → W p l e R s m args below meth c H1 locs1 cells slots Q (F0 m (pc + 3) ls (rest))) : W p l e R s m args below meth c H locs cells slots Q (F0 m pc ls (.ref (b + a1) :: .ref (b + t) :: rest)) :=
  f_callV (As := [.ref (b + a1)]) (ci := 0) (c_X0_take ht ha1 h) ⟨rfl, rfl⟩ rfl (ky_lt ht.1 (by decide)) (wF_0 ht.1) q_774 q_775 q_7 q_776 rfl ⟨by decide +kernel, by decide +kernel, (show (parseMethodDescriptor yX0_take.desc).map (fun d => d.parameters.length) = some 1 by decide +kernel)⟩ F hl hR hW hS hsz hrest rfl hdg kk
set_option maxHeartbeats 4000000 in
set_option maxRecDepth 100000 in
theorem wk_X0_partOf {t : Nat} {a1 : Int32} {μ : Mm} {out : Int32} (F : FX G b RX0 cX0_partOf 2 p s m args meth c) (hr : meth.sig.returnType = some .int) (ht : okBk t) (h : sh_X0_partOf t a1 μ = some out) (hW : WH G b μ H) (hS : va_S (fb b) s.heap H locs) (hl : lv_has ls 2 [(0, .ref (b + t)), (1, .int a1)]) : W p l e ({ frames := 0, cells := 0, slots := 0, locals := 0 } : Room) s m args below meth c H locs 0 0 (MQ below (QW G b μ (some (.int out))) args s 0 0 (fb b)) (F0 m 0 ls []) := by
  have hx := F.1
  have hb := F.2.1
  unfold sh_X0_partOf at h
  refine lv_iload_n hx hb dX0_partOf_0 rfl (lv_at hl 1 rfl) ?_
  refine lv_aload_n hx hb dX0_partOf_1 rfl (lv_at hl 0 rfl) ?_
  refine fl_get0 (v := .int (μ.1 t 3)) (ht).1 F hW 3 (by decide) q_167 rfl rfl dX0_partOf_2 ?_
  refine lv_icmp_ge (tgt := 12) hx hb dX0_partOf_5 (by decide) (fun cc => ?_) (fun cc => ?_)
  · replace h := (if_pos cc).symm.trans h
    refine lv_iconst (v := (1 : Int32)) hx hb dX0_partOf_12 (by decide) ?_
    cases h
    exact r_int F hr hW hS dX0_partOf_13
  · replace h := (if_neg cc).symm.trans h
    refine lv_iconst (v := (0 : Int32)) hx hb dX0_partOf_8 (by decide) ?_
    refine lv_goto (tgt := 13) hx hb dX0_partOf_9 (by decide) ?_
    cases h
    exact r_int F hr hW hS dX0_partOf_13
set_option maxHeartbeats 4000000 in
set_option maxRecDepth 100000 in
theorem c_X0_partOf {l : Launch} {G : Gt} {b : Nat} {t : Nat} {a1 : Int32} {μ : Mm} {out : Int32} (ht : okBk t) (h : sh_X0_partOf t a1 μ = some out) : Met l yX0_partOf (wU (Cond.code yX0_partOf cX0_partOf 2 (some .int))) ({ frames := 0, cells := 0, slots := 0, locals := 0 } : Room) (PcW G b μ [.ref (b + t), .int a1]) (QW G b μ (some (.int out))) 0 0 (fb b) :=
  met_of [.ref (b + t), .int a1] (by decide) (Nat.le_of_ble_eq_true rfl) (fun F hr hW hl => wk_X0_partOf F hr ht h hW va_S.rf hl)
set_option maxHeartbeats 4000000 in
set_option maxRecDepth 100000 in
theorem k_X0_partOf {own : String} {nL : Nat} (F : FX G b own cc nL p s m args meth c) {t : Nat} {a1 : Int32} {μ : Mm} {out : Int32} (ht : okBk t) (h : sh_X0_partOf t a1 μ = some out) {index : Nat} (hl : Cond.methodLink own index yX0_partOf ∈ TBG) (hR : 0 + 1 ≤ R.frames ∧ 8 + (2 + 11) + 0 ≤ R.locals ∧ cells ≤ R.cells ∧ slots ≤ R.slots) (hW : WH G b μ H) (hS : va_S (fb b) s.heap H locs) (hsz : ls.size = nL) (hrest : (rest.map fun v => v.category).sum ≤ 8) (hdg : decode cc pc = .ok (.invokevirtual index, 3))
    (kk : ∀ (H1 : Heap) (locs1 : List Loc), WH G b μ H1 → va_S (fb b) s.heap H1 locs1 → W p l e R s m args below meth c H1 locs1 cells slots Q (F0 m (pc + 3) ls (.int out :: rest))) : W p l e R s m args below meth c H locs cells slots Q (F0 m pc ls (.int a1 :: .ref (b + t) :: rest)) :=
  f_callV (As := [.int a1]) (ci := 0) (c_X0_partOf ht h) ⟨rfl, rfl⟩ rfl (ky_lt ht.1 (by decide)) (wF_0 ht.1) q_418 q_419 q_7 q_420 rfl ⟨by decide +kernel, by decide +kernel, (show (parseMethodDescriptor yX0_partOf.desc).map (fun d => d.parameters.length) = some 1 by decide +kernel)⟩ F hl hR hW hS hsz hrest rfl hdg kk
set_option maxHeartbeats 4000000 in
set_option maxRecDepth 100000 in
theorem wk_X0_partBegin {t : Nat} {a1 : Int32} {μ : Mm} {out : Int32} (F : FX G b RX0 cX0_partBegin 2 p s m args meth c) (hr : meth.sig.returnType = some .int) (ht : okBk t) (h : sh_X0_partBegin t a1 μ = some out) (hW : WH G b μ H) (hS : va_S (fb b) s.heap H locs) (hl : lv_has ls 2 [(0, .ref (b + t)), (1, .int a1)]) : W p l e ({ frames := 0, cells := 0, slots := 0, locals := 0 } : Room) s m args below meth c H locs 0 0 (MQ below (QW G b μ (some (.int out))) args s 0 0 (fb b)) (F0 m 0 ls []) := by
  have hx := F.1
  have hb := F.2.1
  unfold sh_X0_partBegin at h
  refine lv_iload_n hx hb dX0_partBegin_0 rfl (lv_at hl 1 rfl) ?_
  refine lv_if_ne (tgt := 8) hx hb dX0_partBegin_1 (by decide) (fun cc => ?_) (fun cc => ?_)
  · replace h := (if_neg cc).symm.trans h
    refine lv_aload_n hx hb dX0_partBegin_8 rfl (lv_at hl 0 rfl) ?_
    refine fl_get0 (v := .int (μ.1 t 3)) (ht).1 F hW 3 (by decide) q_167 rfl rfl dX0_partBegin_9 ?_
    cases h
    exact r_int F hr hW hS dX0_partBegin_12
  · replace h := (if_pos cc).symm.trans h
    refine lv_iconst (v := (0 : Int32)) hx hb dX0_partBegin_4 (by decide) ?_
    refine lv_goto (tgt := 12) hx hb dX0_partBegin_5 (by decide) ?_
    cases h
    exact r_int F hr hW hS dX0_partBegin_12
set_option maxHeartbeats 4000000 in
set_option maxRecDepth 100000 in
theorem c_X0_partBegin {l : Launch} {G : Gt} {b : Nat} {t : Nat} {a1 : Int32} {μ : Mm} {out : Int32} (ht : okBk t) (h : sh_X0_partBegin t a1 μ = some out) : Met l yX0_partBegin (wU (Cond.code yX0_partBegin cX0_partBegin 2 (some .int))) ({ frames := 0, cells := 0, slots := 0, locals := 0 } : Room) (PcW G b μ [.ref (b + t), .int a1]) (QW G b μ (some (.int out))) 0 0 (fb b) :=
  met_of [.ref (b + t), .int a1] (by decide) (Nat.le_of_ble_eq_true rfl) (fun F hr hW hl => wk_X0_partBegin F hr ht h hW va_S.rf hl)
set_option maxHeartbeats 4000000 in
set_option maxRecDepth 100000 in
theorem k_X0_partBegin {own : String} {nL : Nat} (F : FX G b own cc nL p s m args meth c) {t : Nat} {a1 : Int32} {μ : Mm} {out : Int32} (ht : okBk t) (h : sh_X0_partBegin t a1 μ = some out) {index : Nat} (hl : Cond.methodLink own index yX0_partBegin ∈ TBG) (hR : 0 + 1 ≤ R.frames ∧ 8 + (2 + 11) + 0 ≤ R.locals ∧ cells ≤ R.cells ∧ slots ≤ R.slots) (hW : WH G b μ H) (hS : va_S (fb b) s.heap H locs) (hsz : ls.size = nL) (hrest : (rest.map fun v => v.category).sum ≤ 8) (hdg : decode cc pc = .ok (.invokevirtual index, 3))
    (kk : ∀ (H1 : Heap) (locs1 : List Loc), WH G b μ H1 → va_S (fb b) s.heap H1 locs1 → W p l e R s m args below meth c H1 locs1 cells slots Q (F0 m (pc + 3) ls (.int out :: rest))) : W p l e R s m args below meth c H locs cells slots Q (F0 m pc ls (.int a1 :: .ref (b + t) :: rest)) :=
  f_callV (As := [.int a1]) (ci := 0) (c_X0_partBegin ht h) ⟨rfl, rfl⟩ rfl (ky_lt ht.1 (by decide)) (wF_0 ht.1) q_422 q_423 q_7 q_424 rfl ⟨by decide +kernel, by decide +kernel, (show (parseMethodDescriptor yX0_partBegin.desc).map (fun d => d.parameters.length) = some 1 by decide +kernel)⟩ F hl hR hW hS hsz hrest rfl hdg kk
set_option maxHeartbeats 4000000 in
set_option maxRecDepth 100000 in
theorem wk_X0_partEnd {t : Nat} {a1 : Int32} {μ : Mm} {out : Int32} (F : FX G b RX0 cX0_partEnd 2 p s m args meth c) (hr : meth.sig.returnType = some .int) (ht : okBk t) (h : sh_X0_partEnd t a1 μ = some out) (hW : WH G b μ H) (hS : va_S (fb b) s.heap H locs) (hl : lv_has ls 2 [(0, .ref (b + t)), (1, .int a1)]) : W p l e ({ frames := 0, cells := 0, slots := 0, locals := 0 } : Room) s m args below meth c H locs 0 0 (MQ below (QW G b μ (some (.int out))) args s 0 0 (fb b)) (F0 m 0 ls []) := by
  have hx := F.1
  have hb := F.2.1
  unfold sh_X0_partEnd at h
  refine lv_iload_n hx hb dX0_partEnd_0 rfl (lv_at hl 1 rfl) ?_
  refine lv_if_ne (tgt := 11) hx hb dX0_partEnd_1 (by decide) (fun cc => ?_) (fun cc => ?_)
  · replace h := (if_neg cc).symm.trans h
    refine lv_aload_n hx hb dX0_partEnd_11 rfl (lv_at hl 0 rfl) ?_
    refine fl_get0 (v := .int (μ.1 t 2)) (ht).1 F hW 2 (by decide) q_162 rfl rfl dX0_partEnd_12 ?_
    cases h
    exact r_int F hr hW hS dX0_partEnd_15
  · replace h := (if_pos cc).symm.trans h
    refine lv_aload_n hx hb dX0_partEnd_4 rfl (lv_at hl 0 rfl) ?_
    refine fl_get0 (v := .int (μ.1 t 3)) (ht).1 F hW 3 (by decide) q_167 rfl rfl dX0_partEnd_5 ?_
    refine lv_goto (tgt := 15) hx hb dX0_partEnd_8 (by decide) ?_
    cases h
    exact r_int F hr hW hS dX0_partEnd_15
set_option maxHeartbeats 4000000 in
set_option maxRecDepth 100000 in
theorem c_X0_partEnd {l : Launch} {G : Gt} {b : Nat} {t : Nat} {a1 : Int32} {μ : Mm} {out : Int32} (ht : okBk t) (h : sh_X0_partEnd t a1 μ = some out) : Met l yX0_partEnd (wU (Cond.code yX0_partEnd cX0_partEnd 2 (some .int))) ({ frames := 0, cells := 0, slots := 0, locals := 0 } : Room) (PcW G b μ [.ref (b + t), .int a1]) (QW G b μ (some (.int out))) 0 0 (fb b) :=
  met_of [.ref (b + t), .int a1] (by decide) (Nat.le_of_ble_eq_true rfl) (fun F hr hW hl => wk_X0_partEnd F hr ht h hW va_S.rf hl)
set_option maxHeartbeats 4000000 in
set_option maxRecDepth 100000 in
theorem k_X0_partEnd {own : String} {nL : Nat} (F : FX G b own cc nL p s m args meth c) {t : Nat} {a1 : Int32} {μ : Mm} {out : Int32} (ht : okBk t) (h : sh_X0_partEnd t a1 μ = some out) {index : Nat} (hl : Cond.methodLink own index yX0_partEnd ∈ TBG) (hR : 0 + 1 ≤ R.frames ∧ 8 + (2 + 11) + 0 ≤ R.locals ∧ cells ≤ R.cells ∧ slots ≤ R.slots) (hW : WH G b μ H) (hS : va_S (fb b) s.heap H locs) (hsz : ls.size = nL) (hrest : (rest.map fun v => v.category).sum ≤ 8) (hdg : decode cc pc = .ok (.invokevirtual index, 3))
    (kk : ∀ (H1 : Heap) (locs1 : List Loc), WH G b μ H1 → va_S (fb b) s.heap H1 locs1 → W p l e R s m args below meth c H1 locs1 cells slots Q (F0 m (pc + 3) ls (.int out :: rest))) : W p l e R s m args below meth c H locs cells slots Q (F0 m pc ls (.int a1 :: .ref (b + t) :: rest)) :=
  f_callV (As := [.int a1]) (ci := 0) (c_X0_partEnd ht h) ⟨rfl, rfl⟩ rfl (ky_lt ht.1 (by decide)) (wF_0 ht.1) q_478 q_479 q_7 q_480 rfl ⟨by decide +kernel, by decide +kernel, (show (parseMethodDescriptor yX0_partEnd.desc).map (fun d => d.parameters.length) = some 1 by decide +kernel)⟩ F hl hR hW hS hsz hrest rfl hdg kk
set_option maxHeartbeats 4000000 in
set_option maxRecDepth 100000 in
theorem wk_X0_partForNew {t : Nat} {a1 : Int32} {μ : Mm} {out : Int32} (F : FX G b RX0 cX0_partForNew 2 p s m args meth c) (hr : meth.sig.returnType = some .int) (ht : okBk t) (h : sh_X0_partForNew t a1 μ = some out) (hW : WH G b μ H) (hS : va_S (fb b) s.heap H locs) (hl : lv_has ls 2 [(0, .ref (b + t)), (1, .int a1)]) : W p l e ({ frames := 0, cells := 0, slots := 0, locals := 0 } : Room) s m args below meth c H locs 0 0 (MQ below (QW G b μ (some (.int out))) args s 0 0 (fb b)) (F0 m 0 ls []) := by
  have hx := F.1
  have hb := F.2.1
  unfold sh_X0_partForNew at h
  refine lv_iload_n hx hb dX0_partForNew_0 rfl (lv_at hl 1 rfl) ?_
  refine lv_aload_n hx hb dX0_partForNew_1 rfl (lv_at hl 0 rfl) ?_
  refine fl_get0 (v := .int (μ.1 t 3)) (ht).1 F hW 3 (by decide) q_167 rfl rfl dX0_partForNew_2 ?_
  refine lv_icmp_lt (tgt := 19) hx hb dX0_partForNew_5 (by decide) (fun cc => ?_) (fun cc => ?_)
  · replace h := (if_pos cc).symm.trans h
    refine lv_iconst (v := (0 : Int32)) hx hb dX0_partForNew_19 (by decide) ?_
    refine lv_goto (tgt := 24) hx hb dX0_partForNew_20 (by decide) ?_
    cases h
    exact r_int F hr hW hS dX0_partForNew_24
  · replace h := (if_neg cc).symm.trans h
    refine lv_aload_n hx hb dX0_partForNew_8 rfl (lv_at hl 0 rfl) ?_
    refine fl_get0 (v := .int (μ.1 t 3)) (ht).1 F hW 3 (by decide) q_167 rfl rfl dX0_partForNew_9 ?_
    refine lv_aload_n hx hb dX0_partForNew_12 rfl (lv_at hl 0 rfl) ?_
    refine fl_get0 (v := .int (μ.1 t 2)) (ht).1 F hW 2 (by decide) q_162 rfl rfl dX0_partForNew_13 ?_
    refine lv_icmp_ne (tgt := 23) hx hb dX0_partForNew_16 (by decide) (fun cc => ?_) (fun cc => ?_)
    · replace h := (if_neg cc).symm.trans h
      refine lv_iconst (v := (1 : Int32)) hx hb dX0_partForNew_23 (by decide) ?_
      cases h
      exact r_int F hr hW hS dX0_partForNew_24
    · replace h := (if_pos cc).symm.trans h
      refine lv_iconst (v := (0 : Int32)) hx hb dX0_partForNew_19 (by decide) ?_
      refine lv_goto (tgt := 24) hx hb dX0_partForNew_20 (by decide) ?_
      cases h
      exact r_int F hr hW hS dX0_partForNew_24
set_option maxHeartbeats 4000000 in
set_option maxRecDepth 100000 in
theorem c_X0_partForNew {l : Launch} {G : Gt} {b : Nat} {t : Nat} {a1 : Int32} {μ : Mm} {out : Int32} (ht : okBk t) (h : sh_X0_partForNew t a1 μ = some out) : Met l yX0_partForNew (wU (Cond.code yX0_partForNew cX0_partForNew 2 (some .int))) ({ frames := 0, cells := 0, slots := 0, locals := 0 } : Room) (PcW G b μ [.ref (b + t), .int a1]) (QW G b μ (some (.int out))) 0 0 (fb b) :=
  met_of [.ref (b + t), .int a1] (by decide) (Nat.le_of_ble_eq_true rfl) (fun F hr hW hl => wk_X0_partForNew F hr ht h hW va_S.rf hl)
set_option maxHeartbeats 4000000 in
set_option maxRecDepth 100000 in
theorem k_X0_partForNew {own : String} {nL : Nat} (F : FX G b own cc nL p s m args meth c) {t : Nat} {a1 : Int32} {μ : Mm} {out : Int32} (ht : okBk t) (h : sh_X0_partForNew t a1 μ = some out) {index : Nat} (hl : Cond.methodLink own index yX0_partForNew ∈ TBG) (hR : 0 + 1 ≤ R.frames ∧ 8 + (2 + 11) + 0 ≤ R.locals ∧ cells ≤ R.cells ∧ slots ≤ R.slots) (hW : WH G b μ H) (hS : va_S (fb b) s.heap H locs) (hsz : ls.size = nL) (hrest : (rest.map fun v => v.category).sum ≤ 8) (hdg : decode cc pc = .ok (.invokevirtual index, 3))
    (kk : ∀ (H1 : Heap) (locs1 : List Loc), WH G b μ H1 → va_S (fb b) s.heap H1 locs1 → W p l e R s m args below meth c H1 locs1 cells slots Q (F0 m (pc + 3) ls (.int out :: rest))) : W p l e R s m args below meth c H locs cells slots Q (F0 m pc ls (.int a1 :: .ref (b + t) :: rest)) :=
  f_callV (As := [.int a1]) (ci := 0) (c_X0_partForNew ht h) ⟨rfl, rfl⟩ rfl (ky_lt ht.1 (by decide)) (wF_0 ht.1) q_1335 q_1336 q_7 q_1337 rfl ⟨by decide +kernel, by decide +kernel, (show (parseMethodDescriptor yX0_partForNew.desc).map (fun d => d.parameters.length) = some 1 by decide +kernel)⟩ F hl hR hW hS hsz hrest rfl hdg kk
set_option maxHeartbeats 4000000 in
set_option maxRecDepth 100000 in
theorem wk_X0_greatestLevel {t : Nat} {a1 : Int32} {a2 : Int32} {μ : Mm} {out : Int32} (F : FX G b RX0 cX0_greatestLevel 3 p s m args meth c) (hr : meth.sig.returnType = some .int) (ht : okBk t) (h : sh_X0_greatestLevel t a1 a2 μ = some out) (hW : WH G b μ H) (hS : va_S (fb b) s.heap H locs) (hl : lv_has ls 3 [(0, .ref (b + t)), (1, .int a1), (2, .int a2)]) : W p l e ({ frames := 1, cells := 0, slots := 0, locals := 21 } : Room) s m args below meth c H locs 0 0 (MQ below (QW G b μ (some (.int out))) args s 0 0 (fb b)) (F0 m 0 ls []) := by
  have hx := F.1
  have hb := F.2.1
  unfold sh_X0_greatestLevel at h
  refine lv_iload_n hx hb dX0_greatestLevel_0 rfl (lv_at hl 2 rfl) ?_
  refine lv_aload_n hx hb dX0_greatestLevel_1 rfl (lv_at hl 0 rfl) ?_
  refine lv_iload_n hx hb dX0_greatestLevel_2 rfl (lv_at hl 1 rfl) ?_
  obtain ⟨r1, qr1, h⟩ := ob h
  refine k_X0_partBegin F ht qr1 q_714 ⟨Nat.le_of_ble_eq_true rfl, Nat.le_of_ble_eq_true rfl, Nat.le_of_ble_eq_true rfl, Nat.le_of_ble_eq_true rfl⟩ hW hS hl.1 (Nat.le_of_ble_eq_true rfl) dX0_greatestLevel_3 (fun H locs hW hS => ?_)
  refine lv_icmp_ne (tgt := 13) hx hb dX0_greatestLevel_6 (by decide) (fun cc => ?_) (fun cc => ?_)
  · replace h := (if_neg cc).symm.trans h
    refine lv_aload_n hx hb dX0_greatestLevel_13 rfl (lv_at hl 0 rfl) ?_
    refine fl_get0 (v := .ref (b + (t + 3))) (ht).1 F hW 4 (by decide) q_169 rfl rfl dX0_greatestLevel_14 ?_
    refine lv_iload_n hx hb dX0_greatestLevel_17 rfl (lv_at hl 2 rfl) ?_
    refine lv_iconst (v := (1 : Int32)) hx hb dX0_greatestLevel_18 (by decide) ?_
    refine lv_isub hx hb dX0_greatestLevel_19 ?_
    obtain ⟨r2, qr2, h⟩ := ob h
    refine k_X5_at F (ht).2.2.1 qr2 q_715 ⟨Nat.le_of_ble_eq_true rfl, Nat.le_of_ble_eq_true rfl, Nat.le_of_ble_eq_true rfl, Nat.le_of_ble_eq_true rfl⟩ hW hS hl.1 (Nat.le_of_ble_eq_true rfl) dX0_greatestLevel_20 (fun H locs hW hS => ?_)
    refine lv_iconst (v := (1 : Int32)) hx hb dX0_greatestLevel_23 (by decide) ?_
    refine lv_iadd hx hb dX0_greatestLevel_24 ?_
    refine lv_iconst (v := (4 : Int32)) hx hb dX0_greatestLevel_25 (by decide) ?_
    refine fl_min F hl.1 q_716 q_465 q_3 mm_min (Nat.le_of_ble_eq_true rfl) (Nat.le_of_ble_eq_true rfl) (Nat.zero_le _) (Nat.zero_le _) dX0_greatestLevel_26 ?_
    cases h
    exact r_int F hr hW hS dX0_greatestLevel_29
  · replace h := (if_pos cc).symm.trans h
    refine lv_iconst (v := (1 : Int32)) hx hb dX0_greatestLevel_9 (by decide) ?_
    refine lv_goto (tgt := 29) hx hb dX0_greatestLevel_10 (by decide) ?_
    cases h
    exact r_int F hr hW hS dX0_greatestLevel_29
set_option maxHeartbeats 4000000 in
set_option maxRecDepth 100000 in
theorem c_X0_greatestLevel {l : Launch} {G : Gt} {b : Nat} {t : Nat} {a1 : Int32} {a2 : Int32} {μ : Mm} {out : Int32} (ht : okBk t) (h : sh_X0_greatestLevel t a1 a2 μ = some out) : Met l yX0_greatestLevel (wU (Cond.code yX0_greatestLevel cX0_greatestLevel 3 (some .int))) ({ frames := 1, cells := 0, slots := 0, locals := 21 } : Room) (PcW G b μ [.ref (b + t), .int a1, .int a2]) (QW G b μ (some (.int out))) 0 0 (fb b) :=
  met_of [.ref (b + t), .int a1, .int a2] (by decide) (Nat.le_of_ble_eq_true rfl) (fun F hr hW hl => wk_X0_greatestLevel F hr ht h hW va_S.rf hl)
set_option maxHeartbeats 4000000 in
set_option maxRecDepth 100000 in
theorem k_X0_greatestLevel {own : String} {nL : Nat} (F : FX G b own cc nL p s m args meth c) {t : Nat} {a1 : Int32} {a2 : Int32} {μ : Mm} {out : Int32} (ht : okBk t) (h : sh_X0_greatestLevel t a1 a2 μ = some out) {index : Nat} (hl : Cond.methodLink own index yX0_greatestLevel ∈ TBG) (hR : 1 + 1 ≤ R.frames ∧ 8 + (3 + 11) + 21 ≤ R.locals ∧ cells ≤ R.cells ∧ slots ≤ R.slots) (hW : WH G b μ H) (hS : va_S (fb b) s.heap H locs) (hsz : ls.size = nL) (hrest : (rest.map fun v => v.category).sum ≤ 8) (hdg : decode cc pc = .ok (.invokevirtual index, 3))
    (kk : ∀ (H1 : Heap) (locs1 : List Loc), WH G b μ H1 → va_S (fb b) s.heap H1 locs1 → W p l e R s m args below meth c H1 locs1 cells slots Q (F0 m (pc + 3) ls (.int out :: rest))) : W p l e R s m args below meth c H locs cells slots Q (F0 m pc ls (.int a2 :: .int a1 :: .ref (b + t) :: rest)) :=
  f_callV (As := [.int a1, .int a2]) (ci := 0) (c_X0_greatestLevel ht h) ⟨rfl, rfl⟩ rfl (ky_lt ht.1 (by decide)) (wF_0 ht.1) q_711 q_712 q_7 q_713 rfl ⟨by decide +kernel, by decide +kernel, (show (parseMethodDescriptor yX0_greatestLevel.desc).map (fun d => d.parameters.length) = some 2 by decide +kernel)⟩ F hl hR hW hS hsz hrest rfl hdg kk
set_option maxHeartbeats 4000000 in
set_option maxRecDepth 100000 in
theorem wk_X0_levelStands_29 {t : Nat} {a1 : Int32} {a2 : Int32} {a3 : Int32} {a4 : Int32} {μ : Mm} {s0 : Int32} {out : Int32} (F : FX G b RX0 cX0_levelStands 6 p s m args meth c) (hr : meth.sig.returnType = some .boolean) (ht : okBk t) (h : sh_X0_levelStands_29 t a1 a2 a3 a4 μ s0 = some out) (hW : WH G b μ H) (hS : va_S (fb b) s.heap H locs) (hl : lv_has ls 6 [(0, .ref (b + t)), (1, .int a1), (2, .int a2), (4, .int a4)]) : W p l e ({ frames := 2, cells := 0, slots := 0, locals := 43 } : Room) s m args below meth c H locs 0 0 (MQ below (QW G b μ (some (.int out))) args s 0 0 (fb b)) (F0 m 29 ls [.int s0]) := by
  have hx := F.1
  have hb := F.2.1
  unfold sh_X0_levelStands_29 at h
  refine lv_istore (lv' := [(5, .int s0), (0, .ref (b + t)), (1, .int a1), (2, .int a2), (4, .int a4)]) hx hb dX0_levelStands_29 hl (by decide) rfl (fun ls hl => ?_)
  refine lv_iload hx hb dX0_levelStands_31 (lv_at hl 0 rfl) ?_
  refine lv_if_eq (tgt := 51) hx hb dX0_levelStands_33 (by decide) (fun cc => ?_) (fun cc => ?_)
  · replace h := (if_pos cc).symm.trans h
    refine lv_iconst (v := (0 : Int32)) hx hb dX0_levelStands_51 (by decide) ?_
    cases h
    exact r_bool F hr (Or.inl rfl) hW hS dX0_levelStands_52
  · replace h := (if_neg cc).symm.trans h
    refine lv_iload hx hb dX0_levelStands_36 (lv_at hl 4 rfl) ?_
    refine lv_aload_n hx hb dX0_levelStands_38 rfl (lv_at hl 1 rfl) ?_
    refine lv_iload_n hx hb dX0_levelStands_39 rfl (lv_at hl 2 rfl) ?_
    refine lv_iload_n hx hb dX0_levelStands_40 rfl (lv_at hl 3 rfl) ?_
    obtain ⟨r2, qr2, h⟩ := ob h
    refine k_X0_greatestLevel F ht qr2 q_1307 ⟨Nat.le_of_ble_eq_true rfl, Nat.le_of_ble_eq_true rfl, Nat.le_of_ble_eq_true rfl, Nat.le_of_ble_eq_true rfl⟩ hW hS hl.1 (Nat.le_of_ble_eq_true rfl) dX0_levelStands_41 (fun H locs hW hS => ?_)
    refine lv_icmp_gt (tgt := 51) hx hb dX0_levelStands_44 (by decide) (fun cc => ?_) (fun cc => ?_)
    · replace h := (if_pos cc).symm.trans h
      refine lv_iconst (v := (0 : Int32)) hx hb dX0_levelStands_51 (by decide) ?_
      cases h
      exact r_bool F hr (Or.inl rfl) hW hS dX0_levelStands_52
    · replace h := (if_neg cc).symm.trans h
      refine lv_iconst (v := (1 : Int32)) hx hb dX0_levelStands_47 (by decide) ?_
      refine lv_goto (tgt := 52) hx hb dX0_levelStands_48 (by decide) ?_
      cases h
      exact r_bool F hr (Or.inr rfl) hW hS dX0_levelStands_52
set_option maxHeartbeats 4000000 in
set_option maxRecDepth 100000 in
theorem wk_X0_levelStands_24 {t : Nat} {a1 : Int32} {a2 : Int32} {a3 : Int32} {a4 : Int32} {μ : Mm} {out : Int32} (F : FX G b RX0 cX0_levelStands 6 p s m args meth c) (hr : meth.sig.returnType = some .boolean) (ht : okBk t) (h : sh_X0_levelStands_24 t a1 a2 a3 a4 μ = some out) (hW : WH G b μ H) (hS : va_S (fb b) s.heap H locs) (hl : lv_has ls 6 [(0, .ref (b + t)), (1, .int a1), (2, .int a2), (4, .int a4)]) : W p l e ({ frames := 2, cells := 0, slots := 0, locals := 43 } : Room) s m args below meth c H locs 0 0 (MQ below (QW G b μ (some (.int out))) args s 0 0 (fb b)) (F0 m 24 ls []) := by
  have hx := F.1
  have hb := F.2.1
  unfold sh_X0_levelStands_24 at h
  refine lv_iconst (v := (1 : Int32)) hx hb dX0_levelStands_24 (by decide) ?_
  refine lv_goto (tgt := 29) hx hb dX0_levelStands_25 (by decide) ?_
  exact wk_X0_levelStands_29 F hr ht h hW hS (lv_sub hl [0, 1, 2, 3] rfl)
set_option maxHeartbeats 4000000 in
set_option maxRecDepth 100000 in
theorem wk_X0_levelStands {t : Nat} {a1 : Int32} {a2 : Int32} {a3 : Int32} {a4 : Int32} {μ : Mm} {out : Int32} (F : FX G b RX0 cX0_levelStands 6 p s m args meth c) (hr : meth.sig.returnType = some .boolean) (ht : okBk t) (h : sh_X0_levelStands t a1 a2 a3 a4 μ = some out) (hW : WH G b μ H) (hS : va_S (fb b) s.heap H locs) (hl : lv_has ls 6 [(0, .ref (b + t)), (1, .int a1), (2, .int a2), (3, .int a3), (4, .int a4)]) : W p l e ({ frames := 2, cells := 0, slots := 0, locals := 43 } : Room) s m args below meth c H locs 0 0 (MQ below (QW G b μ (some (.int out))) args s 0 0 (fb b)) (F0 m 0 ls []) := by
  have hx := F.1
  have hb := F.2.1
  unfold sh_X0_levelStands at h
  refine lv_iload_n hx hb dX0_levelStands_0 rfl (lv_at hl 3 rfl) ?_
  refine lv_aload_n hx hb dX0_levelStands_1 rfl (lv_at hl 0 rfl) ?_
  refine lv_iload_n hx hb dX0_levelStands_2 rfl (lv_at hl 1 rfl) ?_
  obtain ⟨r1, qr1, h⟩ := ob h
  refine k_X0_partEnd F ht qr1 q_1306 ⟨Nat.le_of_ble_eq_true rfl, Nat.le_of_ble_eq_true rfl, Nat.le_of_ble_eq_true rfl, Nat.le_of_ble_eq_true rfl⟩ hW hS hl.1 (Nat.le_of_ble_eq_true rfl) dX0_levelStands_3 (fun H locs hW hS => ?_)
  refine lv_icmp_ge (tgt := 24) hx hb dX0_levelStands_6 (by decide) (fun cc => ?_) (fun cc => ?_)
  · replace h := (if_pos cc).symm.trans h
    exact wk_X0_levelStands_24 F hr ht h hW hS (lv_sub hl [0, 1, 2, 4] rfl)
  · replace h := (if_neg cc).symm.trans h
    refine lv_aload_n hx hb dX0_levelStands_9 rfl (lv_at hl 0 rfl) ?_
    refine fl_get0 (v := .ref (b + (t + 3))) (ht).1 F hW 4 (by decide) q_169 rfl rfl dX0_levelStands_10 ?_
    refine lv_iload_n hx hb dX0_levelStands_13 rfl (lv_at hl 3 rfl) ?_
    obtain ⟨r3, qr3, h⟩ := ob h
    refine k_X5_at F (ht).2.2.1 qr3 q_715 ⟨Nat.le_of_ble_eq_true rfl, Nat.le_of_ble_eq_true rfl, Nat.le_of_ble_eq_true rfl, Nat.le_of_ble_eq_true rfl⟩ hW hS hl.1 (Nat.le_of_ble_eq_true rfl) dX0_levelStands_14 (fun H locs hW hS => ?_)
    refine lv_iload hx hb dX0_levelStands_17 (lv_at hl 4 rfl) ?_
    refine lv_iconst (v := (1 : Int32)) hx hb dX0_levelStands_19 (by decide) ?_
    refine lv_iadd hx hb dX0_levelStands_20 ?_
    refine lv_icmp_gt (tgt := 28) hx hb dX0_levelStands_21 (by decide) (fun cc => ?_) (fun cc => ?_)
    · replace h := (if_pos cc).symm.trans h
      refine lv_iconst (v := (0 : Int32)) hx hb dX0_levelStands_28 (by decide) ?_
      exact wk_X0_levelStands_29 F hr ht h hW hS (lv_sub hl [0, 1, 2, 4] rfl)
    · replace h := (if_neg cc).symm.trans h
      exact wk_X0_levelStands_24 F hr ht h hW hS (lv_sub hl [0, 1, 2, 4] rfl)
set_option maxHeartbeats 4000000 in
set_option maxRecDepth 100000 in
theorem c_X0_levelStands {l : Launch} {G : Gt} {b : Nat} {t : Nat} {a1 : Int32} {a2 : Int32} {a3 : Int32} {a4 : Int32} {μ : Mm} {out : Int32} (ht : okBk t) (h : sh_X0_levelStands t a1 a2 a3 a4 μ = some out) : Met l yX0_levelStands (wU (Cond.code yX0_levelStands cX0_levelStands 6 (some .boolean))) ({ frames := 2, cells := 0, slots := 0, locals := 43 } : Room) (PcW G b μ [.ref (b + t), .int a1, .int a2, .int a3, .int a4]) (QW G b μ (some (.int out))) 0 0 (fb b) :=
  met_of [.ref (b + t), .int a1, .int a2, .int a3, .int a4] (by decide) (Nat.le_of_ble_eq_true rfl) (fun F hr hW hl => wk_X0_levelStands F hr ht h hW va_S.rf hl)
set_option maxHeartbeats 4000000 in
set_option maxRecDepth 100000 in
theorem k_X0_levelStands {own : String} {nL : Nat} (F : FX G b own cc nL p s m args meth c) {t : Nat} {a1 : Int32} {a2 : Int32} {a3 : Int32} {a4 : Int32} {μ : Mm} {out : Int32} (ht : okBk t) (h : sh_X0_levelStands t a1 a2 a3 a4 μ = some out) {index : Nat} (hl : Cond.methodLink own index yX0_levelStands ∈ TBG) (hR : 2 + 1 ≤ R.frames ∧ 8 + (6 + 11) + 43 ≤ R.locals ∧ cells ≤ R.cells ∧ slots ≤ R.slots) (hW : WH G b μ H) (hS : va_S (fb b) s.heap H locs) (hsz : ls.size = nL) (hrest : (rest.map fun v => v.category).sum ≤ 8) (hdg : decode cc pc = .ok (.invokevirtual index, 3))
    (kk : ∀ (H1 : Heap) (locs1 : List Loc), WH G b μ H1 → va_S (fb b) s.heap H1 locs1 → W p l e R s m args below meth c H1 locs1 cells slots Q (F0 m (pc + 3) ls (.int out :: rest))) : W p l e R s m args below meth c H locs cells slots Q (F0 m pc ls (.int a4 :: .int a3 :: .int a2 :: .int a1 :: .ref (b + t) :: rest)) :=
  f_callV (As := [.int a1, .int a2, .int a3, .int a4]) (ci := 0) (c_X0_levelStands ht h) ⟨rfl, rfl⟩ rfl (ky_lt ht.1 (by decide)) (wF_0 ht.1) q_1303 q_1304 q_7 q_1305 rfl ⟨by decide +kernel, by decide +kernel, (show (parseMethodDescriptor yX0_levelStands.desc).map (fun d => d.parameters.length) = some 4 by decide +kernel)⟩ F hl hR hW hS hsz hrest rfl hdg kk
set_option maxHeartbeats 4000000 in
set_option maxRecDepth 100000 in
theorem wk_X0_entitle_12 {n : Nat} {t : Nat} {a1 : Int32} {a2 : Nat} {a3 : Int32} {out : Mm} (F : FX G b RX0 cX0_entitle 5 p s m args meth c) (hr : meth.sig.returnType = none) (ht : okBk t) (ha2 : okWR a2) : ∀ (f : Nat) (x4 : Int32) (μ : Mm) (H : Heap) (locs : List Loc) (ls : Array Slot), sh_X0_entitle_12 n t a1 a2 a3 f x4 μ = some out → WH G b μ H → va_S (fb b) s.heap H locs → lv_has ls 5 [(0, .ref (b + t)), (1, .int a1), (2, .ref (b + a2)), (3, .int a3), (4, .int x4)] → W p l e ({ frames := 1, cells := 0, slots := 0, locals := 23 } : Room) s m args below meth c H locs 0 0 (MQ below (QW G b out none) args s 0 0 (fb b)) (F0 m 12 ls []) := by
  have hx := F.1
  have hb := F.2.1
  intro f
  induction f with
  | zero =>
    intro _ _ _ _ _ h
    rw [sh_X0_entitle_12] at h
    cases h
  | succ f ih =>
    intro x4 μ H locs ls h hW hS hl
    rw [sh_X0_entitle_12] at h
    have hk12 := ih
    refine lv_iload hx hb dX0_entitle_12 (lv_at hl 4 rfl) ?_
    refine lv_iload_n hx hb dX0_entitle_14 rfl (lv_at hl 3 rfl) ?_
    refine lv_icmp_ge (tgt := 44) hx hb dX0_entitle_15 (by decide) (fun cc => ?_) (fun cc => ?_)
    · replace h := (if_pos cc).symm.trans h
      cases h
      exact r_void F hr hW hS dX0_entitle_44
    · replace h := (if_neg cc).symm.trans h
      refine lv_aload_n hx hb dX0_entitle_18 rfl (lv_at hl 0 rfl) ?_
      refine fl_get0 (v := .ref (b + (t + 9))) (ht).1 F hW 7 (by decide) q_185 rfl rfl dX0_entitle_19 ?_
      refine lv_iload_n hx hb dX0_entitle_22 rfl (lv_at hl 1 rfl) ?_
      refine lv_bipush (v := (8 : Int32)) hx hb dX0_entitle_23 (by decide) ?_
      refine lv_imul hx hb dX0_entitle_25 ?_
      refine lv_iload hx hb dX0_entitle_26 (lv_at hl 4 rfl) ?_
      refine lv_iadd hx hb dX0_entitle_28 ?_
      refine lv_aload_n hx hb dX0_entitle_29 rfl (lv_at hl 2 rfl) ?_
      refine lv_iload hx hb dX0_entitle_30 (lv_at hl 4 rfl) ?_
      obtain ⟨r2, qr2, h⟩ := ob h
      refine k_X9_at F ha2 qr2 q_755 ⟨Nat.le_of_ble_eq_true rfl, Nat.le_of_ble_eq_true rfl, Nat.le_of_ble_eq_true rfl, Nat.le_of_ble_eq_true rfl⟩ hW hS hl.1 (Nat.le_of_ble_eq_true rfl) dX0_entitle_32 (fun H locs hW hS => ?_)
      obtain ⟨r3, qr3, h⟩ := ob h
      refine k_X9_put F (ht).2.2.2.2.2.1 qr3 q_756 ⟨Nat.le_of_ble_eq_true rfl, Nat.le_of_ble_eq_true rfl, Nat.le_of_ble_eq_true rfl, Nat.le_of_ble_eq_true rfl⟩ hW hS hl.1 (Nat.le_of_ble_eq_true rfl) dX0_entitle_35 (fun H locs hW hS => ?_)
      refine lv_iinc (v := (x4 + (1 : Int32))) (lv' := [(4, .int (x4 + (1 : Int32))), (0, .ref (b + t)), (1, .int a1), (2, .ref (b + a2)), (3, .int a3)]) hx hb dX0_entitle_38 hl (k := 4) rfl rfl (by decide) rfl (fun ls hl => ?_)
      refine lv_goto (tgt := 12) hx hb dX0_entitle_41 (by decide) ?_
      exact hk12 _ _ _ _ _ h hW hS (lv_sub hl [1, 2, 3, 4, 0] rfl)
set_option maxHeartbeats 4000000 in
set_option maxRecDepth 100000 in
theorem wk_X0_entitle {n : Nat} {t : Nat} {a1 : Int32} {a2 : Nat} {a3 : Int32} {μ : Mm} {out : Mm} (F : FX G b RX0 cX0_entitle 5 p s m args meth c) (hr : meth.sig.returnType = none) (ht : okBk t) (ha2 : okWR a2) (h : sh_X0_entitle n t a1 a2 a3 μ = some out) (hW : WH G b μ H) (hS : va_S (fb b) s.heap H locs) (hl : lv_has ls 5 [(0, .ref (b + t)), (1, .int a1), (2, .ref (b + a2)), (3, .int a3)]) : W p l e ({ frames := 1, cells := 0, slots := 0, locals := 23 } : Room) s m args below meth c H locs 0 0 (MQ below (QW G b out none) args s 0 0 (fb b)) (F0 m 0 ls []) := by
  have hx := F.1
  have hb := F.2.1
  unfold sh_X0_entitle at h
  refine lv_aload_n hx hb dX0_entitle_0 rfl (lv_at hl 0 rfl) ?_
  refine fl_get0 (v := .ref (b + (t + 7))) (ht).1 F hW 6 (by decide) q_180 rfl rfl dX0_entitle_1 ?_
  refine lv_iload_n hx hb dX0_entitle_4 rfl (lv_at hl 1 rfl) ?_
  refine lv_iload_n hx hb dX0_entitle_5 rfl (lv_at hl 3 rfl) ?_
  obtain ⟨r1, qr1, h⟩ := ob h
  refine k_X5_put F (ht).2.2.2.2.1 qr1 q_144 ⟨Nat.le_of_ble_eq_true rfl, Nat.le_of_ble_eq_true rfl, Nat.le_of_ble_eq_true rfl, Nat.le_of_ble_eq_true rfl⟩ hW hS hl.1 (Nat.le_of_ble_eq_true rfl) dX0_entitle_6 (fun H locs hW hS => ?_)
  refine lv_iconst (v := (0 : Int32)) hx hb dX0_entitle_9 (by decide) ?_
  refine lv_istore (lv' := [(4, .int (0 : Int32)), (0, .ref (b + t)), (1, .int a1), (2, .ref (b + a2)), (3, .int a3)]) hx hb dX0_entitle_10 hl (by decide) rfl (fun ls hl => ?_)
  exact wk_X0_entitle_12 F hr ht ha2 n _ _ _ _ _ h hW hS (lv_sub hl [1, 2, 3, 4, 0] rfl)
set_option maxHeartbeats 4000000 in
set_option maxRecDepth 100000 in
theorem c_X0_entitle {l : Launch} {G : Gt} {b : Nat} {n : Nat} {t : Nat} {a1 : Int32} {a2 : Nat} {a3 : Int32} {μ : Mm} {out : Mm} (ht : okBk t) (ha2 : okWR a2) (h : sh_X0_entitle n t a1 a2 a3 μ = some out) : Met l yX0_entitle (wU (Cond.code yX0_entitle cX0_entitle 5 none)) ({ frames := 1, cells := 0, slots := 0, locals := 23 } : Room) (PcW G b μ [.ref (b + t), .int a1, .ref (b + a2), .int a3]) (QW G b out none) 0 0 (fb b) :=
  met_of [.ref (b + t), .int a1, .ref (b + a2), .int a3] (by decide) (Nat.le_of_ble_eq_true rfl) (fun F hr hW hl => wk_X0_entitle F hr ht ha2 h hW va_S.rf hl)
set_option maxHeartbeats 4000000 in
set_option maxRecDepth 100000 in
theorem k_X0_entitle {own : String} {nL : Nat} (F : FX G b own cc nL p s m args meth c) {n : Nat} {t : Nat} {a1 : Int32} {a2 : Nat} {a3 : Int32} {μ : Mm} {out : Mm} (ht : okBk t) (ha2 : okWR a2) (h : sh_X0_entitle n t a1 a2 a3 μ = some out) {index : Nat} (hl : Cond.methodLink own index yX0_entitle ∈ TBG) (hR : 1 + 1 ≤ R.frames ∧ 8 + (5 + 11) + 23 ≤ R.locals ∧ cells ≤ R.cells ∧ slots ≤ R.slots) (hW : WH G b μ H) (hS : va_S (fb b) s.heap H locs) (hsz : ls.size = nL) (hrest : (rest.map fun v => v.category).sum ≤ 8) (hdg : decode cc pc = .ok (.invokevirtual index, 3))
    (kk : ∀ (H1 : Heap) (locs1 : List Loc), WH G b out H1 → va_S (fb b) s.heap H1 locs1 → W p l e R s m args below meth c H1 locs1 cells slots Q (F0 m (pc + 3) ls (rest))) : W p l e R s m args below meth c H locs cells slots Q (F0 m pc ls (.int a3 :: .ref (b + a2) :: .int a1 :: .ref (b + t) :: rest)) :=
  f_callV (As := [.int a1, .ref (b + a2), .int a3]) (ci := 0) (c_X0_entitle ht ha2 h) ⟨rfl, rfl⟩ rfl (ky_lt ht.1 (by decide)) (wF_0 ht.1) q_752 q_753 q_7 q_754 rfl ⟨by decide +kernel, by decide +kernel, (show (parseMethodDescriptor yX0_entitle.desc).map (fun d => d.parameters.length) = some 3 by decide +kernel)⟩ F hl hR hW hS hsz hrest rfl hdg kk
set_option maxHeartbeats 4000000 in
set_option maxRecDepth 100000 in
theorem wk_X0_moveSections {t : Nat} {a1 : Int32} {a2 : Int32} {a3 : Int32} {μ : Mm} {out : Mm} (F : FX G b RX0 cX0_moveSections 4 p s m args meth c) (hr : meth.sig.returnType = none) (ht : okBk t) (h : sh_X0_moveSections t a1 a2 a3 μ = some out) (hW : WH G b μ H) (hS : va_S (fb b) s.heap H locs) (hl : lv_has ls 4 [(0, .ref (b + t)), (1, .int a1), (2, .int a2), (3, .int a3)]) : W p l e ({ frames := 2, cells := 0, slots := 0, locals := 71 } : Room) s m args below meth c H locs 0 0 (MQ below (QW G b out none) args s 0 0 (fb b)) (F0 m 0 ls []) := by
  have hx := F.1
  have hb := F.2.1
  unfold sh_X0_moveSections at h
  refine lv_aload_n hx hb dX0_moveSections_0 rfl (lv_at hl 0 rfl) ?_
  refine fl_get0 (v := .ref (b + (t + 3))) (ht).1 F hW 4 (by decide) q_169 rfl rfl dX0_moveSections_1 ?_
  refine lv_iload_n hx hb dX0_moveSections_4 rfl (lv_at hl 1 rfl) ?_
  refine lv_iload_n hx hb dX0_moveSections_5 rfl (lv_at hl 2 rfl) ?_
  refine lv_iload_n hx hb dX0_moveSections_6 rfl (lv_at hl 3 rfl) ?_
  obtain ⟨r1, qr1, h⟩ := ob h
  refine k_X5_move F (ht).2.2.1 qr1 q_739 ⟨Nat.le_of_ble_eq_true rfl, Nat.le_of_ble_eq_true rfl, Nat.le_of_ble_eq_true rfl, Nat.le_of_ble_eq_true rfl⟩ hW hS hl.1 (Nat.le_of_ble_eq_true rfl) dX0_moveSections_7 (fun H locs hW hS => ?_)
  refine lv_aload_n hx hb dX0_moveSections_10 rfl (lv_at hl 0 rfl) ?_
  refine fl_get0 (v := .ref (b + (t + 5))) (ht).1 F hW 5 (by decide) q_176 rfl rfl dX0_moveSections_11 ?_
  refine lv_iload_n hx hb dX0_moveSections_14 rfl (lv_at hl 1 rfl) ?_
  refine lv_iload_n hx hb dX0_moveSections_15 rfl (lv_at hl 2 rfl) ?_
  refine lv_iload_n hx hb dX0_moveSections_16 rfl (lv_at hl 3 rfl) ?_
  obtain ⟨r2, qr2, h⟩ := ob h
  refine k_X5_move F (ht).2.2.2.1 qr2 q_739 ⟨Nat.le_of_ble_eq_true rfl, Nat.le_of_ble_eq_true rfl, Nat.le_of_ble_eq_true rfl, Nat.le_of_ble_eq_true rfl⟩ hW hS hl.1 (Nat.le_of_ble_eq_true rfl) dX0_moveSections_17 (fun H locs hW hS => ?_)
  refine lv_aload_n hx hb dX0_moveSections_20 rfl (lv_at hl 0 rfl) ?_
  refine fl_get0 (v := .ref (b + (t + 7))) (ht).1 F hW 6 (by decide) q_180 rfl rfl dX0_moveSections_21 ?_
  refine lv_iload_n hx hb dX0_moveSections_24 rfl (lv_at hl 1 rfl) ?_
  refine lv_iload_n hx hb dX0_moveSections_25 rfl (lv_at hl 2 rfl) ?_
  refine lv_iload_n hx hb dX0_moveSections_26 rfl (lv_at hl 3 rfl) ?_
  obtain ⟨r3, qr3, h⟩ := ob h
  refine k_X5_move F (ht).2.2.2.2.1 qr3 q_739 ⟨Nat.le_of_ble_eq_true rfl, Nat.le_of_ble_eq_true rfl, Nat.le_of_ble_eq_true rfl, Nat.le_of_ble_eq_true rfl⟩ hW hS hl.1 (Nat.le_of_ble_eq_true rfl) dX0_moveSections_27 (fun H locs hW hS => ?_)
  refine lv_aload_n hx hb dX0_moveSections_30 rfl (lv_at hl 0 rfl) ?_
  refine fl_get0 (v := .ref (b + (t + 11))) (ht).1 F hW 8 (by decide) q_189 rfl rfl dX0_moveSections_31 ?_
  refine lv_iload_n hx hb dX0_moveSections_34 rfl (lv_at hl 1 rfl) ?_
  refine lv_iload_n hx hb dX0_moveSections_35 rfl (lv_at hl 2 rfl) ?_
  refine lv_iload_n hx hb dX0_moveSections_36 rfl (lv_at hl 3 rfl) ?_
  obtain ⟨r4, qr4, h⟩ := ob h
  refine k_X5_move F (ht).2.2.2.2.2.2 qr4 q_739 ⟨Nat.le_of_ble_eq_true rfl, Nat.le_of_ble_eq_true rfl, Nat.le_of_ble_eq_true rfl, Nat.le_of_ble_eq_true rfl⟩ hW hS hl.1 (Nat.le_of_ble_eq_true rfl) dX0_moveSections_37 (fun H locs hW hS => ?_)
  refine lv_aload_n hx hb dX0_moveSections_40 rfl (lv_at hl 0 rfl) ?_
  refine fl_get0 (v := .ref (b + (t + 9))) (ht).1 F hW 7 (by decide) q_185 rfl rfl dX0_moveSections_41 ?_
  refine lv_iload_n hx hb dX0_moveSections_44 rfl (lv_at hl 1 rfl) ?_
  refine lv_bipush (v := (8 : Int32)) hx hb dX0_moveSections_45 (by decide) ?_
  refine lv_imul hx hb dX0_moveSections_47 ?_
  refine lv_iload_n hx hb dX0_moveSections_48 rfl (lv_at hl 2 rfl) ?_
  refine lv_bipush (v := (8 : Int32)) hx hb dX0_moveSections_49 (by decide) ?_
  refine lv_imul hx hb dX0_moveSections_51 ?_
  refine lv_iload_n hx hb dX0_moveSections_52 rfl (lv_at hl 3 rfl) ?_
  refine lv_bipush (v := (8 : Int32)) hx hb dX0_moveSections_53 (by decide) ?_
  refine lv_imul hx hb dX0_moveSections_55 ?_
  obtain ⟨r5, qr5, h⟩ := ob h
  refine k_X9_move F (ht).2.2.2.2.2.1 qr5 q_746 ⟨Nat.le_of_ble_eq_true rfl, Nat.le_of_ble_eq_true rfl, Nat.le_of_ble_eq_true rfl, Nat.le_of_ble_eq_true rfl⟩ hW hS hl.1 (Nat.le_of_ble_eq_true rfl) dX0_moveSections_56 (fun H locs hW hS => ?_)
  cases h
  exact r_void F hr hW hS dX0_moveSections_59
set_option maxHeartbeats 4000000 in
set_option maxRecDepth 100000 in
theorem c_X0_moveSections {l : Launch} {G : Gt} {b : Nat} {t : Nat} {a1 : Int32} {a2 : Int32} {a3 : Int32} {μ : Mm} {out : Mm} (ht : okBk t) (h : sh_X0_moveSections t a1 a2 a3 μ = some out) : Met l yX0_moveSections (wU (Cond.code yX0_moveSections cX0_moveSections 4 none)) ({ frames := 2, cells := 0, slots := 0, locals := 71 } : Room) (PcW G b μ [.ref (b + t), .int a1, .int a2, .int a3]) (QW G b out none) 0 0 (fb b) :=
  met_of [.ref (b + t), .int a1, .int a2, .int a3] (by decide) (Nat.le_of_ble_eq_true rfl) (fun F hr hW hl => wk_X0_moveSections F hr ht h hW va_S.rf hl)
set_option maxHeartbeats 4000000 in
set_option maxRecDepth 100000 in
theorem k_X0_moveSections {own : String} {nL : Nat} (F : FX G b own cc nL p s m args meth c) {t : Nat} {a1 : Int32} {a2 : Int32} {a3 : Int32} {μ : Mm} {out : Mm} (ht : okBk t) (h : sh_X0_moveSections t a1 a2 a3 μ = some out) {index : Nat} (hl : Cond.methodLink own index yX0_moveSections ∈ TBG) (hR : 2 + 1 ≤ R.frames ∧ 8 + (4 + 11) + 71 ≤ R.locals ∧ cells ≤ R.cells ∧ slots ≤ R.slots) (hW : WH G b μ H) (hS : va_S (fb b) s.heap H locs) (hsz : ls.size = nL) (hrest : (rest.map fun v => v.category).sum ≤ 8) (hdg : decode cc pc = .ok (.invokevirtual index, 3))
    (kk : ∀ (H1 : Heap) (locs1 : List Loc), WH G b out H1 → va_S (fb b) s.heap H1 locs1 → W p l e R s m args below meth c H1 locs1 cells slots Q (F0 m (pc + 3) ls (rest))) : W p l e R s m args below meth c H locs cells slots Q (F0 m pc ls (.int a3 :: .int a2 :: .int a1 :: .ref (b + t) :: rest)) :=
  f_callV (As := [.int a1, .int a2, .int a3]) (ci := 0) (c_X0_moveSections ht h) ⟨rfl, rfl⟩ rfl (ky_lt ht.1 (by decide)) (wF_0 ht.1) q_737 qp_21 q_7 q_738 rfl ⟨by decide +kernel, by decide +kernel, (show (parseMethodDescriptor yX0_moveSections.desc).map (fun d => d.parameters.length) = some 3 by decide +kernel)⟩ F hl hR hW hS hsz hrest rfl hdg kk
set_option maxHeartbeats 4000000 in
set_option maxRecDepth 100000 in
theorem wk_X0_open {t : Nat} {a1 : Int32} {a2 : Int32} {μ : Mm} {out : Mm} (F : FX G b RX0 cX0_open 3 p s m args meth c) (hr : meth.sig.returnType = none) (ht : okBk t) (h : sh_X0_open t a1 a2 μ = some out) (hW : WH G b μ H) (hS : va_S (fb b) s.heap H locs) (hl : lv_has ls 3 [(0, .ref (b + t)), (1, .int a1), (2, .int a2)]) : W p l e ({ frames := 3, cells := 0, slots := 0, locals := 94 } : Room) s m args below meth c H locs 0 0 (MQ below (QW G b out none) args s 0 0 (fb b)) (F0 m 0 ls []) := by
  have hx := F.1
  have hb := F.2.1
  unfold sh_X0_open at h
  refine lv_aload_n hx hb dX0_open_0 rfl (lv_at hl 0 rfl) ?_
  refine lv_iload_n hx hb dX0_open_1 rfl (lv_at hl 1 rfl) ?_
  refine lv_iload_n hx hb dX0_open_2 rfl (lv_at hl 1 rfl) ?_
  refine lv_iconst (v := (1 : Int32)) hx hb dX0_open_3 (by decide) ?_
  refine lv_iadd hx hb dX0_open_4 ?_
  refine lv_aload_n hx hb dX0_open_5 rfl (lv_at hl 0 rfl) ?_
  refine fl_get0 (v := .int (μ.1 t 2)) (ht).1 F hW 2 (by decide) q_162 rfl rfl dX0_open_6 ?_
  refine lv_iload_n hx hb dX0_open_9 rfl (lv_at hl 1 rfl) ?_
  refine lv_isub hx hb dX0_open_10 ?_
  obtain ⟨r1, qr1, h⟩ := ob h
  refine k_X0_moveSections F ht qr1 q_735 ⟨Nat.le_of_ble_eq_true rfl, Nat.le_of_ble_eq_true rfl, Nat.le_of_ble_eq_true rfl, Nat.le_of_ble_eq_true rfl⟩ hW hS hl.1 (Nat.le_of_ble_eq_true rfl) dX0_open_11 (fun H locs hW hS => ?_)
  refine lv_aload_n hx hb dX0_open_14 rfl (lv_at hl 0 rfl) ?_
  refine fl_get0 (v := .ref (b + (t + 11))) (ht).1 F hW 8 (by decide) q_189 rfl rfl dX0_open_15 ?_
  refine lv_iload_n hx hb dX0_open_18 rfl (lv_at hl 1 rfl) ?_
  refine lv_iconst (v := (-1 : Int32)) hx hb dX0_open_19 (by decide) ?_
  obtain ⟨r2, qr2, h⟩ := ob h
  refine k_X5_put F (ht).2.2.2.2.2.2 qr2 q_144 ⟨Nat.le_of_ble_eq_true rfl, Nat.le_of_ble_eq_true rfl, Nat.le_of_ble_eq_true rfl, Nat.le_of_ble_eq_true rfl⟩ hW hS hl.1 (Nat.le_of_ble_eq_true rfl) dX0_open_20 (fun H locs hW hS => ?_)
  refine lv_aload_n hx hb dX0_open_23 rfl (lv_at hl 0 rfl) ?_
  refine lv_dup hx hb dX0_open_24 rfl ?_
  refine fl_get0 (v := .int (r2.1 t 2)) (ht).1 F hW 2 (by decide) q_162 rfl rfl dX0_open_25 ?_
  refine lv_iconst (v := (1 : Int32)) hx hb dX0_open_28 (by decide) ?_
  refine lv_iadd hx hb dX0_open_29 ?_
  obtain ⟨μ3, hmμ3, h⟩ := ob h
  refine fl_put0_2 (ht).1 F hW hS q_162 hmμ3 dX0_open_30 (fun H locs hW hS => ?_)
  refine lv_iload_n hx hb dX0_open_33 rfl (lv_at hl 2 rfl) ?_
  refine lv_if_ne (tgt := 47) hx hb dX0_open_34 (by decide) (fun cc => ?_) (fun cc => ?_)
  · replace h := (if_neg cc).symm.trans h
    cases h
    exact r_void F hr hW hS dX0_open_47
  · replace h := (if_pos cc).symm.trans h
    refine lv_aload_n hx hb dX0_open_37 rfl (lv_at hl 0 rfl) ?_
    refine lv_dup hx hb dX0_open_38 rfl ?_
    refine fl_get0 (v := .int (μ3.1 t 3)) (ht).1 F hW 3 (by decide) q_167 rfl rfl dX0_open_39 ?_
    refine lv_iconst (v := (1 : Int32)) hx hb dX0_open_42 (by decide) ?_
    refine lv_iadd hx hb dX0_open_43 ?_
    obtain ⟨μ4, hmμ4, h⟩ := ob h
    refine fl_put0_3 (ht).1 F hW hS q_167 hmμ4 dX0_open_44 (fun H locs hW hS => ?_)
    cases h
    exact r_void F hr hW hS dX0_open_47
set_option maxHeartbeats 4000000 in
set_option maxRecDepth 100000 in
theorem c_X0_open {l : Launch} {G : Gt} {b : Nat} {t : Nat} {a1 : Int32} {a2 : Int32} {μ : Mm} {out : Mm} (ht : okBk t) (h : sh_X0_open t a1 a2 μ = some out) : Met l yX0_open (wU (Cond.code yX0_open cX0_open 3 none)) ({ frames := 3, cells := 0, slots := 0, locals := 94 } : Room) (PcW G b μ [.ref (b + t), .int a1, .int a2]) (QW G b out none) 0 0 (fb b) :=
  met_of [.ref (b + t), .int a1, .int a2] (by decide) (Nat.le_of_ble_eq_true rfl) (fun F hr hW hl => wk_X0_open F hr ht h hW va_S.rf hl)
set_option maxHeartbeats 4000000 in
set_option maxRecDepth 100000 in
theorem k_X0_open {own : String} {nL : Nat} (F : FX G b own cc nL p s m args meth c) {t : Nat} {a1 : Int32} {a2 : Int32} {μ : Mm} {out : Mm} (ht : okBk t) (h : sh_X0_open t a1 a2 μ = some out) {index : Nat} (hl : Cond.methodLink own index yX0_open ∈ TBG) (hR : 3 + 1 ≤ R.frames ∧ 8 + (3 + 11) + 94 ≤ R.locals ∧ cells ≤ R.cells ∧ slots ≤ R.slots) (hW : WH G b μ H) (hS : va_S (fb b) s.heap H locs) (hsz : ls.size = nL) (hrest : (rest.map fun v => v.category).sum ≤ 8) (hdg : decode cc pc = .ok (.invokevirtual index, 3))
    (kk : ∀ (H1 : Heap) (locs1 : List Loc), WH G b out H1 → va_S (fb b) s.heap H1 locs1 → W p l e R s m args below meth c H1 locs1 cells slots Q (F0 m (pc + 3) ls (rest))) : W p l e R s m args below meth c H locs cells slots Q (F0 m pc ls (.int a2 :: .int a1 :: .ref (b + t) :: rest)) :=
  f_callV (As := [.int a1, .int a2]) (ci := 0) (c_X0_open ht h) ⟨rfl, rfl⟩ rfl (ky_lt ht.1 (by decide)) (wF_0 ht.1) q_732 q_733 q_7 q_734 rfl ⟨by decide +kernel, by decide +kernel, (show (parseMethodDescriptor yX0_open.desc).map (fun d => d.parameters.length) = some 2 by decide +kernel)⟩ F hl hR hW hS hsz hrest rfl hdg kk
set_option maxHeartbeats 4000000 in
set_option maxRecDepth 100000 in
theorem wk_X0_cutBranch_44 {n : Nat} {t : Nat} {a1 : Int32} {x2 : Int32} {x3 : Int32} {μ : Mm} {out : (Int32 × Mm)} (F : FX G b RX0 cX0_cutBranch 5 p s m args meth c) (hr : meth.sig.returnType = some .int) (ht : okBk t) (h : sh_X0_cutBranch_44 n t a1 x2 x3 μ = some out) (hW : WH G b μ H) (hS : va_S (fb b) s.heap H locs) (hl : lv_has ls 5 [(0, .ref (b + t)), (1, .int a1), (2, .int x2), (3, .int x3)]) : W p l e ({ frames := 3, cells := 0, slots := 0, locals := 94 } : Room) s m args below meth c H locs 0 0 (MQ below (QW G b out.2 (some (.int out.1))) args s 0 0 (fb b)) (F0 m 44 ls []) := by
  have hx := F.1
  have hb := F.2.1
  unfold sh_X0_cutBranch_44 at h
  refine lv_aload_n hx hb dX0_cutBranch_44 rfl (lv_at hl 0 rfl) ?_
  refine lv_iload_n hx hb dX0_cutBranch_45 rfl (lv_at hl 3 rfl) ?_
  refine lv_iload_n hx hb dX0_cutBranch_46 rfl (lv_at hl 1 rfl) ?_
  refine lv_aload_n hx hb dX0_cutBranch_47 rfl (lv_at hl 0 rfl) ?_
  refine fl_get0 (v := .int (μ.1 t 2)) (ht).1 F hW 2 (by decide) q_162 rfl rfl dX0_cutBranch_48 ?_
  refine lv_iload_n hx hb dX0_cutBranch_51 rfl (lv_at hl 3 rfl) ?_
  refine lv_isub hx hb dX0_cutBranch_52 ?_
  obtain ⟨r4, qr4, h⟩ := ob h
  refine k_X0_moveSections F ht qr4 q_735 ⟨Nat.le_of_ble_eq_true rfl, Nat.le_of_ble_eq_true rfl, Nat.le_of_ble_eq_true rfl, Nat.le_of_ble_eq_true rfl⟩ hW hS hl.1 (Nat.le_of_ble_eq_true rfl) dX0_cutBranch_53 (fun H locs hW hS => ?_)
  refine lv_iload_n hx hb dX0_cutBranch_56 rfl (lv_at hl 3 rfl) ?_
  refine lv_iload_n hx hb dX0_cutBranch_57 rfl (lv_at hl 1 rfl) ?_
  refine lv_isub hx hb dX0_cutBranch_58 ?_
  obtain ⟨v5, ev5⟩ : ∃ y, y = (x3 - a1) := ⟨_, rfl⟩
  have h := nm_at ev5 h
  rw [← ev5]
  refine lv_istore (lv' := [(4, .int v5), (0, .ref (b + t)), (1, .int a1), (2, .int x2), (3, .int x3)]) hx hb dX0_cutBranch_59 hl (by decide) rfl (fun ls hl => ?_)
  refine lv_aload_n hx hb dX0_cutBranch_61 rfl (lv_at hl 1 rfl) ?_
  refine lv_dup hx hb dX0_cutBranch_62 rfl ?_
  refine fl_get0 (v := .int (r4.1 t 2)) (ht).1 F hW 2 (by decide) q_162 rfl rfl dX0_cutBranch_63 ?_
  refine lv_iload hx hb dX0_cutBranch_66 (lv_at hl 0 rfl) ?_
  refine lv_isub hx hb dX0_cutBranch_68 ?_
  obtain ⟨μ6, hmμ6, h⟩ := ob h
  refine fl_put0_2 (ht).1 F hW hS q_162 hmμ6 dX0_cutBranch_69 (fun H locs hW hS => ?_)
  refine lv_iload_n hx hb dX0_cutBranch_72 rfl (lv_at hl 3 rfl) ?_
  refine lv_if_ne (tgt := 87) hx hb dX0_cutBranch_73 (by decide) (fun cc => ?_) (fun cc => ?_)
  · replace h := (if_neg cc).symm.trans h
    refine lv_iload hx hb dX0_cutBranch_87 (lv_at hl 0 rfl) ?_
    cases h
    exact r_int F hr hW hS dX0_cutBranch_89
  · replace h := (if_pos cc).symm.trans h
    refine lv_aload_n hx hb dX0_cutBranch_76 rfl (lv_at hl 1 rfl) ?_
    refine lv_dup hx hb dX0_cutBranch_77 rfl ?_
    refine fl_get0 (v := .int (μ6.1 t 3)) (ht).1 F hW 3 (by decide) q_167 rfl rfl dX0_cutBranch_78 ?_
    refine lv_iload hx hb dX0_cutBranch_81 (lv_at hl 0 rfl) ?_
    refine lv_isub hx hb dX0_cutBranch_83 ?_
    obtain ⟨μ7, hmμ7, h⟩ := ob h
    refine fl_put0_3 (ht).1 F hW hS q_167 hmμ7 dX0_cutBranch_84 (fun H locs hW hS => ?_)
    refine lv_iload hx hb dX0_cutBranch_87 (lv_at hl 0 rfl) ?_
    cases h
    exact r_int F hr hW hS dX0_cutBranch_89
set_option maxHeartbeats 4000000 in
set_option maxRecDepth 100000 in
theorem wk_X0_cutBranch_10 {n : Nat} {t : Nat} {a1 : Int32} {out : (Int32 × Mm)} (F : FX G b RX0 cX0_cutBranch 5 p s m args meth c) (hr : meth.sig.returnType = some .int) (ht : okBk t) : ∀ (f : Nat) (x2 : Int32) (x3 : Int32) (μ : Mm) (H : Heap) (locs : List Loc) (ls : Array Slot), sh_X0_cutBranch_10 n t a1 f x2 x3 μ = some out → WH G b μ H → va_S (fb b) s.heap H locs → lv_has ls 5 [(0, .ref (b + t)), (1, .int a1), (2, .int x2), (3, .int x3)] → W p l e ({ frames := 3, cells := 0, slots := 0, locals := 94 } : Room) s m args below meth c H locs 0 0 (MQ below (QW G b out.2 (some (.int out.1))) args s 0 0 (fb b)) (F0 m 10 ls []) := by
  have hx := F.1
  have hb := F.2.1
  intro f
  induction f with
  | zero =>
    intro _ _ _ _ _ _ h
    rw [sh_X0_cutBranch_10] at h
    cases h
  | succ f ih =>
    intro x2 x3 μ H locs ls h hW hS hl
    rw [sh_X0_cutBranch_10] at h
    have hk10 := ih
    refine lv_iload_n hx hb dX0_cutBranch_10 rfl (lv_at hl 3 rfl) ?_
    refine lv_aload_n hx hb dX0_cutBranch_11 rfl (lv_at hl 0 rfl) ?_
    refine lv_iload_n hx hb dX0_cutBranch_12 rfl (lv_at hl 2 rfl) ?_
    obtain ⟨r3, qr3, h⟩ := ob h
    refine k_X0_partEnd F ht qr3 q_1306 ⟨Nat.le_of_ble_eq_true rfl, Nat.le_of_ble_eq_true rfl, Nat.le_of_ble_eq_true rfl, Nat.le_of_ble_eq_true rfl⟩ hW hS hl.1 (Nat.le_of_ble_eq_true rfl) dX0_cutBranch_13 (fun H locs hW hS => ?_)
    refine lv_icmp_ge (tgt := 44) hx hb dX0_cutBranch_16 (by decide) (fun cc => ?_) (fun cc => ?_)
    · replace h := (if_pos cc).symm.trans h
      exact wk_X0_cutBranch_44 F hr ht h hW hS (lv_sub hl [0, 1, 2, 3] rfl)
    · replace h := (if_neg cc).symm.trans h
      refine lv_aload_n hx hb dX0_cutBranch_19 rfl (lv_at hl 0 rfl) ?_
      refine fl_get0 (v := .ref (b + (t + 3))) (ht).1 F hW 4 (by decide) q_169 rfl rfl dX0_cutBranch_20 ?_
      refine lv_iload_n hx hb dX0_cutBranch_23 rfl (lv_at hl 3 rfl) ?_
      obtain ⟨r8, qr8, h⟩ := ob h
      refine k_X5_at F (ht).2.2.1 qr8 q_715 ⟨Nat.le_of_ble_eq_true rfl, Nat.le_of_ble_eq_true rfl, Nat.le_of_ble_eq_true rfl, Nat.le_of_ble_eq_true rfl⟩ hW hS hl.1 (Nat.le_of_ble_eq_true rfl) dX0_cutBranch_24 (fun H locs hW hS => ?_)
      refine lv_aload_n hx hb dX0_cutBranch_27 rfl (lv_at hl 0 rfl) ?_
      refine fl_get0 (v := .ref (b + (t + 3))) (ht).1 F hW 4 (by decide) q_169 rfl rfl dX0_cutBranch_28 ?_
      refine lv_iload_n hx hb dX0_cutBranch_31 rfl (lv_at hl 1 rfl) ?_
      obtain ⟨r9, qr9, h⟩ := ob h
      refine k_X5_at F (ht).2.2.1 qr9 q_715 ⟨Nat.le_of_ble_eq_true rfl, Nat.le_of_ble_eq_true rfl, Nat.le_of_ble_eq_true rfl, Nat.le_of_ble_eq_true rfl⟩ hW hS hl.1 (Nat.le_of_ble_eq_true rfl) dX0_cutBranch_32 (fun H locs hW hS => ?_)
      refine lv_icmp_le (tgt := 44) hx hb dX0_cutBranch_35 (by decide) (fun cc => ?_) (fun cc => ?_)
      · replace h := (if_pos cc).symm.trans h
        exact wk_X0_cutBranch_44 F hr ht h hW hS (lv_sub hl [0, 1, 2, 3] rfl)
      · replace h := (if_neg cc).symm.trans h
        refine lv_iinc (v := (x3 + (1 : Int32))) (lv' := [(3, .int (x3 + (1 : Int32))), (0, .ref (b + t)), (1, .int a1), (2, .int x2)]) hx hb dX0_cutBranch_38 hl (k := 3) rfl rfl (by decide) rfl (fun ls hl => ?_)
        refine lv_goto (tgt := 10) hx hb dX0_cutBranch_41 (by decide) ?_
        exact hk10 _ _ _ _ _ _ h hW hS (lv_sub hl [1, 2, 3, 0] rfl)
set_option maxHeartbeats 4000000 in
set_option maxRecDepth 100000 in
theorem wk_X0_cutBranch {n : Nat} {t : Nat} {a1 : Int32} {μ : Mm} {out : (Int32 × Mm)} (F : FX G b RX0 cX0_cutBranch 5 p s m args meth c) (hr : meth.sig.returnType = some .int) (ht : okBk t) (h : sh_X0_cutBranch n t a1 μ = some out) (hW : WH G b μ H) (hS : va_S (fb b) s.heap H locs) (hl : lv_has ls 5 [(0, .ref (b + t)), (1, .int a1)]) : W p l e ({ frames := 3, cells := 0, slots := 0, locals := 94 } : Room) s m args below meth c H locs 0 0 (MQ below (QW G b out.2 (some (.int out.1))) args s 0 0 (fb b)) (F0 m 0 ls []) := by
  have hx := F.1
  have hb := F.2.1
  unfold sh_X0_cutBranch at h
  refine lv_aload_n hx hb dX0_cutBranch_0 rfl (lv_at hl 0 rfl) ?_
  refine lv_iload_n hx hb dX0_cutBranch_1 rfl (lv_at hl 1 rfl) ?_
  obtain ⟨r1, qr1, h⟩ := ob h
  refine k_X0_partOf F ht qr1 q_1351 ⟨Nat.le_of_ble_eq_true rfl, Nat.le_of_ble_eq_true rfl, Nat.le_of_ble_eq_true rfl, Nat.le_of_ble_eq_true rfl⟩ hW hS hl.1 (Nat.le_of_ble_eq_true rfl) dX0_cutBranch_2 (fun H locs hW hS => ?_)
  refine lv_istore_n (lv' := [(2, .int r1), (0, .ref (b + t)), (1, .int a1)]) hx hb dX0_cutBranch_5 rfl hl (by decide) rfl (fun ls hl => ?_)
  refine lv_iload_n hx hb dX0_cutBranch_6 rfl (lv_at hl 2 rfl) ?_
  refine lv_iconst (v := (1 : Int32)) hx hb dX0_cutBranch_7 (by decide) ?_
  refine lv_iadd hx hb dX0_cutBranch_8 ?_
  obtain ⟨v2, ev2⟩ : ∃ y, y = (a1 + (1 : Int32)) := ⟨_, rfl⟩
  have h := nm_at ev2 h
  rw [← ev2]
  refine lv_istore_n (lv' := [(3, .int v2), (2, .int r1), (0, .ref (b + t)), (1, .int a1)]) hx hb dX0_cutBranch_9 rfl hl (by decide) rfl (fun ls hl => ?_)
  exact wk_X0_cutBranch_10 F hr ht n _ _ _ _ _ _ h hW hS (lv_sub hl [2, 3, 1, 0] rfl)
set_option maxHeartbeats 4000000 in
set_option maxRecDepth 100000 in
theorem c_X0_cutBranch {l : Launch} {G : Gt} {b : Nat} {n : Nat} {t : Nat} {a1 : Int32} {μ : Mm} {out : (Int32 × Mm)} (ht : okBk t) (h : sh_X0_cutBranch n t a1 μ = some out) : Met l yX0_cutBranch (wU (Cond.code yX0_cutBranch cX0_cutBranch 5 (some .int))) ({ frames := 3, cells := 0, slots := 0, locals := 94 } : Room) (PcW G b μ [.ref (b + t), .int a1]) (QW G b out.2 (some (.int out.1))) 0 0 (fb b) :=
  met_of [.ref (b + t), .int a1] (by decide) (Nat.le_of_ble_eq_true rfl) (fun F hr hW hl => wk_X0_cutBranch F hr ht h hW va_S.rf hl)
set_option maxHeartbeats 4000000 in
set_option maxRecDepth 100000 in
theorem k_X0_cutBranch {own : String} {nL : Nat} (F : FX G b own cc nL p s m args meth c) {n : Nat} {t : Nat} {a1 : Int32} {μ : Mm} {out : (Int32 × Mm)} (ht : okBk t) (h : sh_X0_cutBranch n t a1 μ = some out) {index : Nat} (hl : Cond.methodLink own index yX0_cutBranch ∈ TBG) (hR : 3 + 1 ≤ R.frames ∧ 8 + (5 + 11) + 94 ≤ R.locals ∧ cells ≤ R.cells ∧ slots ≤ R.slots) (hW : WH G b μ H) (hS : va_S (fb b) s.heap H locs) (hsz : ls.size = nL) (hrest : (rest.map fun v => v.category).sum ≤ 8) (hdg : decode cc pc = .ok (.invokevirtual index, 3))
    (kk : ∀ (H1 : Heap) (locs1 : List Loc), WH G b out.2 H1 → va_S (fb b) s.heap H1 locs1 → W p l e R s m args below meth c H1 locs1 cells slots Q (F0 m (pc + 3) ls (.int out.1 :: rest))) : W p l e R s m args below meth c H locs cells slots Q (F0 m pc ls (.int a1 :: .ref (b + t) :: rest)) :=
  f_callV (As := [.int a1]) (ci := 0) (c_X0_cutBranch ht h) ⟨rfl, rfl⟩ rfl (ky_lt ht.1 (by decide)) (wF_0 ht.1) q_1348 q_1349 q_7 q_1350 rfl ⟨by decide +kernel, by decide +kernel, (show (parseMethodDescriptor yX0_cutBranch.desc).map (fun d => d.parameters.length) = some 1 by decide +kernel)⟩ F hl hR hW hS hsz hrest rfl hdg kk
set_option maxHeartbeats 4000000 in
set_option maxRecDepth 100000 in
theorem wk_X6_take {t : Nat} {a1 : Nat} {μ : Mm} {out : Mm} (F : FX G b RX6 cX6_take 2 p s m args meth c) (hr : meth.sig.returnType = none) (ht : okSt t) (ha1 : okSt a1) (h : sh_X6_take t a1 μ = some out) (hW : WH G b μ H) (hS : va_S (fb b) s.heap H locs) (hl : lv_has ls 2 [(0, .ref (b + t)), (1, .ref (b + a1))]) : W p l e ({ frames := 3, cells := 0, slots := 0, locals := 90 } : Room) s m args below meth c H locs 0 0 (MQ below (QW G b out none) args s 0 0 (fb b)) (F0 m 0 ls []) := by
  have hx := F.1
  have hb := F.2.1
  unfold sh_X6_take at h
  refine lv_aload_n hx hb dX6_take_0 rfl (lv_at hl 0 rfl) ?_
  refine fl_get6 (v := .ref (b + (t + 1))) (ht).1 F hW 0 (by decide) q_211 rfl rfl dX6_take_1 ?_
  refine lv_aload_n hx hb dX6_take_4 rfl (lv_at hl 1 rfl) ?_
  refine fl_get6 (v := .ref (b + (a1 + 1))) (ha1).1 F hW 0 (by decide) q_211 rfl rfl dX6_take_5 ?_
  obtain ⟨r1, qr1, h⟩ := ob h
  refine k_X0_take F (ht).2.1 (ha1).2.1 qr1 q_773 ⟨Nat.le_of_ble_eq_true rfl, Nat.le_of_ble_eq_true rfl, Nat.le_of_ble_eq_true rfl, Nat.le_of_ble_eq_true rfl⟩ hW hS hl.1 (Nat.le_of_ble_eq_true rfl) dX6_take_8 (fun H locs hW hS => ?_)
  refine lv_aload_n hx hb dX6_take_11 rfl (lv_at hl 0 rfl) ?_
  refine fl_get6 (v := .ref (b + (t + 14))) (ht).1 F hW 1 (by decide) q_213 rfl rfl dX6_take_12 ?_
  refine lv_aload_n hx hb dX6_take_15 rfl (lv_at hl 1 rfl) ?_
  refine fl_get6 (v := .ref (b + (a1 + 14))) (ha1).1 F hW 1 (by decide) q_213 rfl rfl dX6_take_16 ?_
  obtain ⟨r2, qr2, h⟩ := ob h
  refine k_X0_take F (ht).2.2 (ha1).2.2 qr2 q_773 ⟨Nat.le_of_ble_eq_true rfl, Nat.le_of_ble_eq_true rfl, Nat.le_of_ble_eq_true rfl, Nat.le_of_ble_eq_true rfl⟩ hW hS hl.1 (Nat.le_of_ble_eq_true rfl) dX6_take_19 (fun H locs hW hS => ?_)
  refine lv_aload_n hx hb dX6_take_22 rfl (lv_at hl 0 rfl) ?_
  refine lv_aload_n hx hb dX6_take_23 rfl (lv_at hl 1 rfl) ?_
  refine fl_get6 (v := .int (r2.1 a1 2)) (ha1).1 F hW 2 (by decide) q_215 rfl rfl dX6_take_24 ?_
  obtain ⟨μ3, hmμ3, h⟩ := ob h
  refine fl_put6_2 (ht).1 F hW hS q_215 hmμ3 dX6_take_27 (fun H locs hW hS => ?_)
  cases h
  exact r_void F hr hW hS dX6_take_30
set_option maxHeartbeats 4000000 in
set_option maxRecDepth 100000 in
theorem c_X6_take {l : Launch} {G : Gt} {b : Nat} {t : Nat} {a1 : Nat} {μ : Mm} {out : Mm} (ht : okSt t) (ha1 : okSt a1) (h : sh_X6_take t a1 μ = some out) : Met l yX6_take (wU (Cond.code yX6_take cX6_take 2 none)) ({ frames := 3, cells := 0, slots := 0, locals := 90 } : Room) (PcW G b μ [.ref (b + t), .ref (b + a1)]) (QW G b out none) 0 0 (fb b) :=
  met_of [.ref (b + t), .ref (b + a1)] (by decide) (Nat.le_of_ble_eq_true rfl) (fun F hr hW hl => wk_X6_take F hr ht ha1 h hW va_S.rf hl)
set_option maxHeartbeats 4000000 in
set_option maxRecDepth 100000 in
theorem k_X6_take {own : String} {nL : Nat} (F : FX G b own cc nL p s m args meth c) {t : Nat} {a1 : Nat} {μ : Mm} {out : Mm} (ht : okSt t) (ha1 : okSt a1) (h : sh_X6_take t a1 μ = some out) {index : Nat} (hl : Cond.methodLink own index yX6_take ∈ TBG) (hR : 3 + 1 ≤ R.frames ∧ 8 + (2 + 11) + 90 ≤ R.locals ∧ cells ≤ R.cells ∧ slots ≤ R.slots) (hW : WH G b μ H) (hS : va_S (fb b) s.heap H locs) (hsz : ls.size = nL) (hrest : (rest.map fun v => v.category).sum ≤ 8) (hdg : decode cc pc = .ok (.invokevirtual index, 3))
    (kk : ∀ (H1 : Heap) (locs1 : List Loc), WH G b out H1 → va_S (fb b) s.heap H1 locs1 → W p l e R s m args below meth c H1 locs1 cells slots Q (F0 m (pc + 3) ls (rest))) : W p l e R s m args below meth c H locs cells slots Q (F0 m pc ls (.ref (b + a1) :: .ref (b + t) :: rest)) :=
  f_callV (As := [.ref (b + a1)]) (ci := 6) (c_X6_take ht ha1 h) ⟨rfl, rfl⟩ rfl (ky_lt ht.1 (by decide)) (wF_6 ht.1) q_770 q_771 q_6 q_772 rfl ⟨by decide +kernel, by decide +kernel, (show (parseMethodDescriptor yX6_take.desc).map (fun d => d.parameters.length) = some 1 by decide +kernel)⟩ F hl hR hW hS hsz hrest rfl hdg kk
set_option maxHeartbeats 4000000 in
set_option maxRecDepth 100000 in
theorem wk_X6_keepProof_2 {n : Nat} {t : Nat} {out : Mm} (F : FX G b RX6 cX6_keepProof 2 p s m args meth c) (hr : meth.sig.returnType = none) (ht : okSt t) : ∀ (f : Nat) (x1 : Int32) (μ : Mm) (H : Heap) (locs : List Loc) (ls : Array Slot), sh_X6_keepProof_2 n t f x1 μ = some out → WH G b μ H → va_S (fb b) s.heap H locs → lv_has ls 2 [(0, .ref (b + t)), (1, .int x1)] → W p l e ({ frames := 3, cells := 0, slots := 0, locals := 90 } : Room) s m args below meth c H locs 0 0 (MQ below (QW G b out none) args s 0 0 (fb b)) (F0 m 2 ls []) := by
  have hx := F.1
  have hb := F.2.1
  intro f
  induction f with
  | zero =>
    intro _ _ _ _ _ h
    rw [sh_X6_keepProof_2] at h
    cases h
  | succ f ih =>
    intro x1 μ H locs ls h hW hS hl
    rw [sh_X6_keepProof_2] at h
    have hk2 := ih
    refine lv_iload_n hx hb dX6_keepProof_2 rfl (lv_at hl 1 rfl) ?_
    refine lv_aload_n hx hb dX6_keepProof_3 rfl (lv_at hl 0 rfl) ?_
    refine fl_get6 (v := .ref (b + (t + 1))) (ht).1 F hW 0 (by decide) q_211 rfl rfl dX6_keepProof_4 ?_
    refine fl_get0 (v := .int (μ.1 (t + 1) 2)) ((ht).2.1).1 F hW 2 (by decide) q_164 rfl rfl dX6_keepProof_7 ?_
    refine lv_icmp_ge (tgt := 31) hx hb dX6_keepProof_10 (by decide) (fun cc => ?_) (fun cc => ?_)
    · replace h := (if_pos cc).symm.trans h
      refine lv_aload_n hx hb dX6_keepProof_31 rfl (lv_at hl 0 rfl) ?_
      refine fl_get6 (v := .ref (b + (t + 14))) (ht).1 F hW 1 (by decide) q_213 rfl rfl dX6_keepProof_32 ?_
      refine lv_aload_n hx hb dX6_keepProof_35 rfl (lv_at hl 0 rfl) ?_
      refine fl_get6 (v := .ref (b + (t + 1))) (ht).1 F hW 0 (by decide) q_211 rfl rfl dX6_keepProof_36 ?_
      obtain ⟨r1, qr1, h⟩ := ob h
      refine k_X0_take F (ht).2.2 (ht).2.1 qr1 q_773 ⟨Nat.le_of_ble_eq_true rfl, Nat.le_of_ble_eq_true rfl, Nat.le_of_ble_eq_true rfl, Nat.le_of_ble_eq_true rfl⟩ hW hS hl.1 (Nat.le_of_ble_eq_true rfl) dX6_keepProof_39 (fun H locs hW hS => ?_)
      refine lv_aload_n hx hb dX6_keepProof_42 rfl (lv_at hl 0 rfl) ?_
      refine lv_iconst (v := (1 : Int32)) hx hb dX6_keepProof_43 (by decide) ?_
      obtain ⟨μ2, hmμ2, h⟩ := ob h
      refine fl_put6_2 (ht).1 F hW hS q_215 hmμ2 dX6_keepProof_44 (fun H locs hW hS => ?_)
      cases h
      exact r_void F hr hW hS dX6_keepProof_47
    · replace h := (if_neg cc).symm.trans h
      refine lv_aload_n hx hb dX6_keepProof_13 rfl (lv_at hl 0 rfl) ?_
      refine fl_get6 (v := .ref (b + (t + 1))) (ht).1 F hW 0 (by decide) q_211 rfl rfl dX6_keepProof_14 ?_
      refine fl_get0 (v := .ref (b + (t + 12))) ((ht).2.1).1 F hW 8 (by decide) q_190 rfl rfl dX6_keepProof_17 ?_
      refine lv_iload_n hx hb dX6_keepProof_20 rfl (lv_at hl 1 rfl) ?_
      refine lv_iload_n hx hb dX6_keepProof_21 rfl (lv_at hl 1 rfl) ?_
      obtain ⟨r3, qr3, h⟩ := ob h
      refine k_X5_put F ((ht).2.1).2.2.2.2.2.2 qr3 q_946 ⟨Nat.le_of_ble_eq_true rfl, Nat.le_of_ble_eq_true rfl, Nat.le_of_ble_eq_true rfl, Nat.le_of_ble_eq_true rfl⟩ hW hS hl.1 (Nat.le_of_ble_eq_true rfl) dX6_keepProof_22 (fun H locs hW hS => ?_)
      refine lv_iinc (v := (x1 + (1 : Int32))) (lv' := [(1, .int (x1 + (1 : Int32))), (0, .ref (b + t))]) hx hb dX6_keepProof_25 hl (k := 1) rfl rfl (by decide) rfl (fun ls hl => ?_)
      refine lv_goto (tgt := 2) hx hb dX6_keepProof_28 (by decide) ?_
      exact hk2 _ _ _ _ _ h hW hS (lv_sub hl [1, 0] rfl)
set_option maxHeartbeats 4000000 in
set_option maxRecDepth 100000 in
theorem wk_X6_keepProof {n : Nat} {t : Nat} {μ : Mm} {out : Mm} (F : FX G b RX6 cX6_keepProof 2 p s m args meth c) (hr : meth.sig.returnType = none) (ht : okSt t) (h : sh_X6_keepProof n t μ = some out) (hW : WH G b μ H) (hS : va_S (fb b) s.heap H locs) (hl : lv_has ls 2 [(0, .ref (b + t))]) : W p l e ({ frames := 3, cells := 0, slots := 0, locals := 90 } : Room) s m args below meth c H locs 0 0 (MQ below (QW G b out none) args s 0 0 (fb b)) (F0 m 0 ls []) := by
  have hx := F.1
  have hb := F.2.1
  unfold sh_X6_keepProof at h
  refine lv_iconst (v := (0 : Int32)) hx hb dX6_keepProof_0 (by decide) ?_
  refine lv_istore_n (lv' := [(1, .int (0 : Int32)), (0, .ref (b + t))]) hx hb dX6_keepProof_1 rfl hl (by decide) rfl (fun ls hl => ?_)
  exact wk_X6_keepProof_2 F hr ht n _ _ _ _ _ h hW hS (lv_sub hl [1, 0] rfl)
set_option maxHeartbeats 4000000 in
set_option maxRecDepth 100000 in
theorem c_X6_keepProof {l : Launch} {G : Gt} {b : Nat} {n : Nat} {t : Nat} {μ : Mm} {out : Mm} (ht : okSt t) (h : sh_X6_keepProof n t μ = some out) : Met l yX6_keepProof (wU (Cond.code yX6_keepProof cX6_keepProof 2 none)) ({ frames := 3, cells := 0, slots := 0, locals := 90 } : Room) (PcW G b μ [.ref (b + t)]) (QW G b out none) 0 0 (fb b) :=
  met_of [.ref (b + t)] (by decide) (Nat.le_of_ble_eq_true rfl) (fun F hr hW hl => wk_X6_keepProof F hr ht h hW va_S.rf hl)
set_option maxHeartbeats 4000000 in
set_option maxRecDepth 100000 in
theorem k_X6_keepProof {own : String} {nL : Nat} (F : FX G b own cc nL p s m args meth c) {n : Nat} {t : Nat} {μ : Mm} {out : Mm} (ht : okSt t) (h : sh_X6_keepProof n t μ = some out) {index : Nat} (hl : Cond.methodLink own index yX6_keepProof ∈ TBG) (hR : 3 + 1 ≤ R.frames ∧ 8 + (2 + 11) + 90 ≤ R.locals ∧ cells ≤ R.cells ∧ slots ≤ R.slots) (hW : WH G b μ H) (hS : va_S (fb b) s.heap H locs) (hsz : ls.size = nL) (hrest : (rest.map fun v => v.category).sum ≤ 8) (hdg : decode cc pc = .ok (.invokevirtual index, 3))
    (kk : ∀ (H1 : Heap) (locs1 : List Loc), WH G b out H1 → va_S (fb b) s.heap H1 locs1 → W p l e R s m args below meth c H1 locs1 cells slots Q (F0 m (pc + 3) ls (rest))) : W p l e R s m args below meth c H locs cells slots Q (F0 m pc ls (.ref (b + t) :: rest)) :=
  f_callV (As := []) (ci := 6) (c_X6_keepProof ht h) ⟨rfl, rfl⟩ rfl (ky_lt ht.1 (by decide)) (wF_6 ht.1) q_943 q_944 q_6 q_945 rfl ⟨by decide +kernel, by decide +kernel, (show (parseMethodDescriptor yX6_keepProof.desc).map (fun d => d.parameters.length) = some 0 by decide +kernel)⟩ F hl hR hW hS hsz hrest rfl hdg kk
end G12
