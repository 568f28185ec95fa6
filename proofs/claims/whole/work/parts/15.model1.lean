section G150
variable {p : Program} {l : Launch} {e : Env} {R : Room} {s : State} {m : MethodId} {args : Array Value} {below : List Frame} {meth : Method} {c : Code} {H : Heap} {locs : List Loc} {cells slots : Nat} {Q : State → Prop}
variable {cc : ByteArray} {pc : Nat} {ls : Array Slot} {rest : List Value} {G : Gt} {b : Nat}

set_option maxHeartbeats 4000000 in
set_option maxRecDepth 100000 in
theorem wk_X12_thrown {μ : Mm} {out : Int32} (F : FX (fg G) b RX12 cX12_thrown 1 p s m args meth c) (hr : meth.sig.returnType = some .int) (h : sh_X12_thrown  μ = some out) (hW : WH (fg G) b μ H) (hS : va_S (fb b) s.heap H locs) (hl : lv_has ls 1 [(0, .ref (b + 306))]) : W p l e ({ frames := 0, cells := 0, slots := 0, locals := 0 } : Room) s m args below meth c H locs 0 0 (MQ below (QW (fg G) b μ (some (.int out))) args s 0 0 (fb b)) (F0 m 0 ls []) := by
  have hx := F.1
  have hb := F.2.1
  unfold sh_X12_thrown at h
  refine lv_aload_n hx hb dX12_thrown_0 rfl (lv_at hl 0 rfl) ?_
  refine fl_get12 (v := .int (μ.1 306 0)) kyf_306 F hW 0 (by decide) q_1471 rfl rfl dX12_thrown_1 ?_
  cases h
  exact r_int F hr hW hS dX12_thrown_4
set_option maxHeartbeats 4000000 in
set_option maxRecDepth 100000 in
theorem c_X12_thrown {l : Launch} {G : Gt} {b : Nat} {μ : Mm} {out : Int32} (h : sh_X12_thrown  μ = some out) : Met l yX12_thrown (wU (Cond.code yX12_thrown cX12_thrown 1 (some .int))) ({ frames := 0, cells := 0, slots := 0, locals := 0 } : Room) (PcW (fg G) b μ [.ref (b + 306)]) (QW (fg G) b μ (some (.int out))) 0 0 (fb b) :=
  met_of [.ref (b + 306)] (by decide) (Nat.le_of_ble_eq_true rfl) (fun F hr hW hl => wk_X12_thrown F hr h hW va_S.rf hl)
set_option maxHeartbeats 4000000 in
set_option maxRecDepth 100000 in
theorem k_X12_thrown {own : String} {nL : Nat} (F : FX (fg G) b own cc nL p s m args meth c) {μ : Mm} {out : Int32} (h : sh_X12_thrown  μ = some out) {index : Nat} (hl : Cond.methodLink own index yX12_thrown ∈ TBG) (hR : 0 + 1 ≤ R.frames ∧ 8 + (1 + 11) + 0 ≤ R.locals ∧ cells ≤ R.cells ∧ slots ≤ R.slots) (hW : WH (fg G) b μ H) (hS : va_S (fb b) s.heap H locs) (hsz : ls.size = nL) (hrest : (rest.map fun v => v.category).sum ≤ 8) (hdg : decode cc pc = .ok (.invokevirtual index, 3))
    (kk : ∀ (H1 : Heap) (locs1 : List Loc), WH (fg G) b μ H1 → va_S (fb b) s.heap H1 locs1 → W p l e R s m args below meth c H1 locs1 cells slots Q (F0 m (pc + 3) ls (.int out :: rest))) : W p l e R s m args below meth c H locs cells slots Q (F0 m pc ls (.ref (b + 306) :: rest)) :=
  f_callV (As := []) (ci := 12) (c_X12_thrown h) ⟨rfl, rfl⟩ rfl (ky_lm kyf_306 (by decide)) (wF_12 kyf_306) q_1458 q_1459 q_14 q_1460 rfl ⟨by decide +kernel, by decide +kernel, (show (parseMethodDescriptor yX12_thrown.desc).map (fun d => d.parameters.length) = some 0 by decide +kernel)⟩ F hl hR hW hS hsz hrest rfl hdg kk
set_option maxHeartbeats 4000000 in
set_option maxRecDepth 100000 in
theorem wk_X12_in {a0 : Int64} {a2 : Int64} {a4 : Int64} {μ : Mm} {out : Int32} (F : FX (fg G) b RX12 cX12_in 6 p s m args meth c) (hr : meth.sig.returnType = some .boolean) (h : sh_X12_in a0 a2 a4 μ = some out) (hW : WH (fg G) b μ H) (hS : va_S (fb b) s.heap H locs) (hl : lv_has ls 6 [(0, .long a0), (2, .long a2), (4, .long a4)]) : W p l e ({ frames := 0, cells := 0, slots := 0, locals := 0 } : Room) s m args below meth c H locs 0 0 (MQ below (QW (fg G) b μ (some (.int out))) args s 0 0 (fb b)) (F0 m 0 ls []) := by
  have hx := F.1
  have hb := F.2.1
  unfold sh_X12_in at h
  refine lv_lload_n hx hb dX12_in_0 rfl (lv_at hl 0 rfl) ?_
  refine lv_lload_n hx hb dX12_in_1 rfl (lv_at hl 1 rfl) ?_
  refine W.lcmp hx hb dX12_in_2 ?_
  refine lv_if_lt (tgt := 17) hx hb dX12_in_3 (by decide) (fun cc => ?_) (fun cc => ?_)
  · replace h := (if_pos cc).symm.trans h
    refine lv_iconst (v := (0 : Int32)) hx hb dX12_in_17 (by decide) ?_
    cases h
    exact r_bool F hr (Or.inl rfl) hW hS dX12_in_18
  · replace h := (if_neg cc).symm.trans h
    refine lv_lload_n hx hb dX12_in_6 rfl (lv_at hl 0 rfl) ?_
    refine lv_lload hx hb dX12_in_7 (lv_at hl 2 rfl) ?_
    refine W.lcmp hx hb dX12_in_9 ?_
    refine lv_if_gt (tgt := 17) hx hb dX12_in_10 (by decide) (fun cc => ?_) (fun cc => ?_)
    · replace h := (if_pos cc).symm.trans h
      refine lv_iconst (v := (0 : Int32)) hx hb dX12_in_17 (by decide) ?_
      cases h
      exact r_bool F hr (Or.inl rfl) hW hS dX12_in_18
    · replace h := (if_neg cc).symm.trans h
      refine lv_iconst (v := (1 : Int32)) hx hb dX12_in_13 (by decide) ?_
      refine lv_goto (tgt := 18) hx hb dX12_in_14 (by decide) ?_
      cases h
      exact r_bool F hr (Or.inr rfl) hW hS dX12_in_18
set_option maxHeartbeats 4000000 in
set_option maxRecDepth 100000 in
theorem c_X12_in {l : Launch} {G : Gt} {b : Nat} {a0 : Int64} {a2 : Int64} {a4 : Int64} {μ : Mm} {out : Int32} (h : sh_X12_in a0 a2 a4 μ = some out) : Met l yX12_in (wU (Cond.code yX12_in cX12_in 6 (some .boolean))) ({ frames := 0, cells := 0, slots := 0, locals := 0 } : Room) (PcW (fg G) b μ [.long a0, .long a2, .long a4]) (QW (fg G) b μ (some (.int out))) 0 0 (fb b) :=
  met_of [.long a0, .long a2, .long a4] (by decide) (Nat.le_of_ble_eq_true rfl) (fun F hr hW hl => wk_X12_in F hr h hW va_S.rf hl)
set_option maxHeartbeats 4000000 in
set_option maxRecDepth 100000 in
theorem k_X12_in {nL : Nat} (F : FX (fg G) b RX12 cc nL p s m args meth c) {a0 : Int64} {a2 : Int64} {a4 : Int64} {μ : Mm} {out : Int32} (h : sh_X12_in a0 a2 a4 μ = some out) {index : Nat} (hl : Cond.methodLink RX12 index yX12_in ∈ TBG) (hR : 0 + 1 ≤ R.frames ∧ 8 + (6 + 11) + 0 ≤ R.locals ∧ cells ≤ R.cells ∧ slots ≤ R.slots) (hW : WH (fg G) b μ H) (hS : va_S (fb b) s.heap H locs) (hsz : ls.size = nL) (hrest : (rest.map fun v => v.category).sum ≤ 8) (hdg : decode cc pc = .ok (.invokestatic index, 3))
    (kk : ∀ (H1 : Heap) (locs1 : List Loc), WH (fg G) b μ H1 → va_S (fb b) s.heap H1 locs1 → W p l e R s m args below meth c H1 locs1 cells slots Q (F0 m (pc + 3) ls (.int out :: rest))) : W p l e R s m args below meth c H locs cells slots Q (F0 m pc ls (.long a4 :: .long a2 :: .long a0 :: rest)) :=
  f_callS (As := [.long a0, .long a2, .long a4]) (c_X12_in h) ⟨rfl, rfl⟩ q_1644 q_14 q_1645 rfl ⟨by decide +kernel, by decide +kernel, (show (parseMethodDescriptor yX12_in.desc).map (fun d => d.parameters.length) = some 3 by decide +kernel)⟩ F hl hR hW hS hsz hrest rfl hdg kk
set_option maxHeartbeats 4000000 in
set_option maxRecDepth 100000 in
theorem wk_X12_passes3_26 {a1 : Int32} {a2 : Int32} {a3 : Int32} {s1 : Int32} {μ : Mm} {out : (Int32 × Mm)} (F : FX (fg G) b RX12 cX12_passes3 4 p s m args meth c) (hr : meth.sig.returnType = some .boolean) (h : sh_X12_passes3_26 a1 a2 a3 s1 μ = some out) (hW : WH (fg G) b μ H) (hS : va_S (fb b) s.heap H locs) (hl : lv_has ls 4 [(0, .ref (b + 306))]) : W p l e ({ frames := 0, cells := 0, slots := 0, locals := 0 } : Room) s m args below meth c H locs 0 0 (MQ below (QW (fg G) b out.2 (some (.int out.1))) args s 0 0 (fb b)) (F0 m 26 ls [.int s1, .ref (b + 306)]) := by
  have hx := F.1
  have hb := F.2.1
  unfold sh_X12_passes3_26 at h
  obtain ⟨μ1, hmμ1, h⟩ := ob h
  refine fl_put12_0 kyf_306 F hW hS q_1471 hmμ1 dX12_passes3_26 (fun H locs hW hS => ?_)
  refine lv_aload_n hx hb dX12_passes3_29 rfl (lv_at hl 0 rfl) ?_
  refine fl_get12 (v := .int (μ1.1 306 0)) kyf_306 F hW 0 (by decide) q_1471 rfl rfl dX12_passes3_30 ?_
  refine lv_if_ne (tgt := 40) hx hb dX12_passes3_33 (by decide) (fun cc => ?_) (fun cc => ?_)
  · replace h := (if_neg cc).symm.trans h
    refine lv_iconst (v := (0 : Int32)) hx hb dX12_passes3_40 (by decide) ?_
    cases h
    exact r_bool F hr (Or.inl rfl) hW hS dX12_passes3_41
  · replace h := (if_pos cc).symm.trans h
    refine lv_iconst (v := (1 : Int32)) hx hb dX12_passes3_36 (by decide) ?_
    refine lv_goto (tgt := 41) hx hb dX12_passes3_37 (by decide) ?_
    cases h
    exact r_bool F hr (Or.inr rfl) hW hS dX12_passes3_41
set_option maxHeartbeats 4000000 in
set_option maxRecDepth 100000 in
theorem wk_X12_passes3 {a1 : Int32} {a2 : Int32} {a3 : Int32} {μ : Mm} {out : (Int32 × Mm)} (F : FX (fg G) b RX12 cX12_passes3 4 p s m args meth c) (hr : meth.sig.returnType = some .boolean) (h : sh_X12_passes3 a1 a2 a3 μ = some out) (hW : WH (fg G) b μ H) (hS : va_S (fb b) s.heap H locs) (hl : lv_has ls 4 [(0, .ref (b + 306)), (1, .int a1), (2, .int a2), (3, .int a3)]) : W p l e ({ frames := 0, cells := 0, slots := 0, locals := 0 } : Room) s m args below meth c H locs 0 0 (MQ below (QW (fg G) b out.2 (some (.int out.1))) args s 0 0 (fb b)) (F0 m 0 ls []) := by
  have hx := F.1
  have hb := F.2.1
  unfold sh_X12_passes3 at h
  refine lv_aload_n hx hb dX12_passes3_0 rfl (lv_at hl 0 rfl) ?_
  refine lv_iload_n hx hb dX12_passes3_1 rfl (lv_at hl 1 rfl) ?_
  refine lv_if_ne (tgt := 9) hx hb dX12_passes3_2 (by decide) (fun cc => ?_) (fun cc => ?_)
  · replace h := (if_neg cc).symm.trans h
    refine lv_iload_n hx hb dX12_passes3_9 rfl (lv_at hl 2 rfl) ?_
    refine lv_if_ne (tgt := 17) hx hb dX12_passes3_10 (by decide) (fun cc => ?_) (fun cc => ?_)
    · replace h := (if_neg cc).symm.trans h
      refine lv_iload_n hx hb dX12_passes3_17 rfl (lv_at hl 3 rfl) ?_
      refine lv_if_ne (tgt := 25) hx hb dX12_passes3_18 (by decide) (fun cc => ?_) (fun cc => ?_)
      · replace h := (if_neg cc).symm.trans h
        refine lv_iconst (v := (0 : Int32)) hx hb dX12_passes3_25 (by decide) ?_
        exact wk_X12_passes3_26 F hr h hW hS (lv_sub hl [0] rfl)
      · replace h := (if_pos cc).symm.trans h
        refine lv_iconst (v := (3 : Int32)) hx hb dX12_passes3_21 (by decide) ?_
        refine lv_goto (tgt := 26) hx hb dX12_passes3_22 (by decide) ?_
        exact wk_X12_passes3_26 F hr h hW hS (lv_sub hl [0] rfl)
    · replace h := (if_pos cc).symm.trans h
      refine lv_iconst (v := (2 : Int32)) hx hb dX12_passes3_13 (by decide) ?_
      refine lv_goto (tgt := 26) hx hb dX12_passes3_14 (by decide) ?_
      exact wk_X12_passes3_26 F hr h hW hS (lv_sub hl [0] rfl)
  · replace h := (if_pos cc).symm.trans h
    refine lv_iconst (v := (1 : Int32)) hx hb dX12_passes3_5 (by decide) ?_
    refine lv_goto (tgt := 26) hx hb dX12_passes3_6 (by decide) ?_
    exact wk_X12_passes3_26 F hr h hW hS (lv_sub hl [0] rfl)
set_option maxHeartbeats 4000000 in
set_option maxRecDepth 100000 in
theorem c_X12_passes3 {l : Launch} {G : Gt} {b : Nat} {a1 : Int32} {a2 : Int32} {a3 : Int32} {μ : Mm} {out : (Int32 × Mm)} (h : sh_X12_passes3 a1 a2 a3 μ = some out) : Met l yX12_passes3 (wU (Cond.code yX12_passes3 cX12_passes3 4 (some .boolean))) ({ frames := 0, cells := 0, slots := 0, locals := 0 } : Room) (PcW (fg G) b μ [.ref (b + 306), .int a1, .int a2, .int a3]) (QW (fg G) b out.2 (some (.int out.1))) 0 0 (fb b) :=
  met_of [.ref (b + 306), .int a1, .int a2, .int a3] (by decide) (Nat.le_of_ble_eq_true rfl) (fun F hr hW hl => wk_X12_passes3 F hr h hW va_S.rf hl)
set_option maxHeartbeats 4000000 in
set_option maxRecDepth 100000 in
theorem k_X12_passes3 {own : String} {nL : Nat} (F : FX (fg G) b own cc nL p s m args meth c) {a1 : Int32} {a2 : Int32} {a3 : Int32} {μ : Mm} {out : (Int32 × Mm)} (h : sh_X12_passes3 a1 a2 a3 μ = some out) {index : Nat} (hl : Cond.methodLink own index yX12_passes3 ∈ TBG) (hR : 0 + 1 ≤ R.frames ∧ 8 + (4 + 11) + 0 ≤ R.locals ∧ cells ≤ R.cells ∧ slots ≤ R.slots) (hW : WH (fg G) b μ H) (hS : va_S (fb b) s.heap H locs) (hsz : ls.size = nL) (hrest : (rest.map fun v => v.category).sum ≤ 8) (hdg : decode cc pc = .ok (.invokevirtual index, 3))
    (kk : ∀ (H1 : Heap) (locs1 : List Loc), WH (fg G) b out.2 H1 → va_S (fb b) s.heap H1 locs1 → W p l e R s m args below meth c H1 locs1 cells slots Q (F0 m (pc + 3) ls (.int out.1 :: rest))) : W p l e R s m args below meth c H locs cells slots Q (F0 m pc ls (.int a3 :: .int a2 :: .int a1 :: .ref (b + 306) :: rest)) :=
  f_callV (As := [.int a1, .int a2, .int a3]) (ci := 12) (c_X12_passes3 h) ⟨rfl, rfl⟩ rfl (ky_lm kyf_306 (by decide)) (wF_12 kyf_306) q_1633 qp_43 q_14 q_1634 rfl ⟨by decide +kernel, by decide +kernel, (show (parseMethodDescriptor yX12_passes3.desc).map (fun d => d.parameters.length) = some 3 by decide +kernel)⟩ F hl hR hW hS hsz hrest rfl hdg kk
set_option maxHeartbeats 4000000 in
set_option maxRecDepth 100000 in
theorem wk_X12_passes2 {a1 : Int32} {a2 : Int32} {μ : Mm} {out : (Int32 × Mm)} (F : FX (fg G) b RX12 cX12_passes2 3 p s m args meth c) (hr : meth.sig.returnType = some .boolean) (h : sh_X12_passes2 a1 a2 μ = some out) (hW : WH (fg G) b μ H) (hS : va_S (fb b) s.heap H locs) (hl : lv_has ls 3 [(0, .ref (b + 306)), (1, .int a1), (2, .int a2)]) : W p l e ({ frames := 1, cells := 0, slots := 0, locals := 23 } : Room) s m args below meth c H locs 0 0 (MQ below (QW (fg G) b out.2 (some (.int out.1))) args s 0 0 (fb b)) (F0 m 0 ls []) := by
  have hx := F.1
  have hb := F.2.1
  unfold sh_X12_passes2 at h
  refine lv_aload_n hx hb dX12_passes2_0 rfl (lv_at hl 0 rfl) ?_
  refine lv_iload_n hx hb dX12_passes2_1 rfl (lv_at hl 1 rfl) ?_
  refine lv_iload_n hx hb dX12_passes2_2 rfl (lv_at hl 2 rfl) ?_
  refine lv_iconst (v := (1 : Int32)) hx hb dX12_passes2_3 (by decide) ?_
  obtain ⟨r1, qr1, h⟩ := ob h
  refine k_X12_passes3 F qr1 q_1631 ⟨Nat.le_of_ble_eq_true rfl, Nat.le_of_ble_eq_true rfl, Nat.le_of_ble_eq_true rfl, Nat.le_of_ble_eq_true rfl⟩ hW hS hl.1 (Nat.le_of_ble_eq_true rfl) dX12_passes2_4 (fun H locs hW hS => ?_)
  obtain ⟨v2, qv2, h⟩ := ob h
  obtain ⟨zv2, qv2⟩ := isB_some qv2
  rw [qv2] at zv2
  rw [qv2]
  cases h
  exact r_bool F hr zv2 hW hS dX12_passes2_7
set_option maxHeartbeats 4000000 in
set_option maxRecDepth 100000 in
theorem c_X12_passes2 {l : Launch} {G : Gt} {b : Nat} {a1 : Int32} {a2 : Int32} {μ : Mm} {out : (Int32 × Mm)} (h : sh_X12_passes2 a1 a2 μ = some out) : Met l yX12_passes2 (wU (Cond.code yX12_passes2 cX12_passes2 3 (some .boolean))) ({ frames := 1, cells := 0, slots := 0, locals := 23 } : Room) (PcW (fg G) b μ [.ref (b + 306), .int a1, .int a2]) (QW (fg G) b out.2 (some (.int out.1))) 0 0 (fb b) :=
  met_of [.ref (b + 306), .int a1, .int a2] (by decide) (Nat.le_of_ble_eq_true rfl) (fun F hr hW hl => wk_X12_passes2 F hr h hW va_S.rf hl)
set_option maxHeartbeats 4000000 in
set_option maxRecDepth 100000 in
theorem k_X12_passes2 {own : String} {nL : Nat} (F : FX (fg G) b own cc nL p s m args meth c) {a1 : Int32} {a2 : Int32} {μ : Mm} {out : (Int32 × Mm)} (h : sh_X12_passes2 a1 a2 μ = some out) {index : Nat} (hl : Cond.methodLink own index yX12_passes2 ∈ TBG) (hR : 1 + 1 ≤ R.frames ∧ 8 + (3 + 11) + 23 ≤ R.locals ∧ cells ≤ R.cells ∧ slots ≤ R.slots) (hW : WH (fg G) b μ H) (hS : va_S (fb b) s.heap H locs) (hsz : ls.size = nL) (hrest : (rest.map fun v => v.category).sum ≤ 8) (hdg : decode cc pc = .ok (.invokevirtual index, 3))
    (kk : ∀ (H1 : Heap) (locs1 : List Loc), WH (fg G) b out.2 H1 → va_S (fb b) s.heap H1 locs1 → W p l e R s m args below meth c H1 locs1 cells slots Q (F0 m (pc + 3) ls (.int out.1 :: rest))) : W p l e R s m args below meth c H locs cells slots Q (F0 m pc ls (.int a2 :: .int a1 :: .ref (b + 306) :: rest)) :=
  f_callV (As := [.int a1, .int a2]) (ci := 12) (c_X12_passes2 h) ⟨rfl, rfl⟩ rfl (ky_lm kyf_306 (by decide)) (wF_12 kyf_306) q_1875 qp_88 q_14 q_1876 rfl ⟨by decide +kernel, by decide +kernel, (show (parseMethodDescriptor yX12_passes2.desc).map (fun d => d.parameters.length) = some 2 by decide +kernel)⟩ F hl hR hW hS hsz hrest rfl hdg kk
set_option maxHeartbeats 4000000 in
set_option maxRecDepth 100000 in
theorem wk_X12_passes {a1 : Int32} {μ : Mm} {out : (Int32 × Mm)} (F : FX (fg G) b RX12 cX12_passes 2 p s m args meth c) (hr : meth.sig.returnType = some .boolean) (h : sh_X12_passes a1 μ = some out) (hW : WH (fg G) b μ H) (hS : va_S (fb b) s.heap H locs) (hl : lv_has ls 2 [(0, .ref (b + 306)), (1, .int a1)]) : W p l e ({ frames := 1, cells := 0, slots := 0, locals := 23 } : Room) s m args below meth c H locs 0 0 (MQ below (QW (fg G) b out.2 (some (.int out.1))) args s 0 0 (fb b)) (F0 m 0 ls []) := by
  have hx := F.1
  have hb := F.2.1
  unfold sh_X12_passes at h
  refine lv_aload_n hx hb dX12_passes_0 rfl (lv_at hl 0 rfl) ?_
  refine lv_iload_n hx hb dX12_passes_1 rfl (lv_at hl 1 rfl) ?_
  refine lv_iconst (v := (1 : Int32)) hx hb dX12_passes_2 (by decide) ?_
  refine lv_iconst (v := (1 : Int32)) hx hb dX12_passes_3 (by decide) ?_
  obtain ⟨r1, qr1, h⟩ := ob h
  refine k_X12_passes3 F qr1 q_1631 ⟨Nat.le_of_ble_eq_true rfl, Nat.le_of_ble_eq_true rfl, Nat.le_of_ble_eq_true rfl, Nat.le_of_ble_eq_true rfl⟩ hW hS hl.1 (Nat.le_of_ble_eq_true rfl) dX12_passes_4 (fun H locs hW hS => ?_)
  obtain ⟨v2, qv2, h⟩ := ob h
  obtain ⟨zv2, qv2⟩ := isB_some qv2
  rw [qv2] at zv2
  rw [qv2]
  cases h
  exact r_bool F hr zv2 hW hS dX12_passes_7
set_option maxHeartbeats 4000000 in
set_option maxRecDepth 100000 in
theorem c_X12_passes {l : Launch} {G : Gt} {b : Nat} {a1 : Int32} {μ : Mm} {out : (Int32 × Mm)} (h : sh_X12_passes a1 μ = some out) : Met l yX12_passes (wU (Cond.code yX12_passes cX12_passes 2 (some .boolean))) ({ frames := 1, cells := 0, slots := 0, locals := 23 } : Room) (PcW (fg G) b μ [.ref (b + 306), .int a1]) (QW (fg G) b out.2 (some (.int out.1))) 0 0 (fb b) :=
  met_of [.ref (b + 306), .int a1] (by decide) (Nat.le_of_ble_eq_true rfl) (fun F hr hW hl => wk_X12_passes F hr h hW va_S.rf hl)
set_option maxHeartbeats 4000000 in
set_option maxRecDepth 100000 in
theorem k_X12_passes {own : String} {nL : Nat} (F : FX (fg G) b own cc nL p s m args meth c) {a1 : Int32} {μ : Mm} {out : (Int32 × Mm)} (h : sh_X12_passes a1 μ = some out) {index : Nat} (hl : Cond.methodLink own index yX12_passes ∈ TBG) (hR : 1 + 1 ≤ R.frames ∧ 8 + (2 + 11) + 23 ≤ R.locals ∧ cells ≤ R.cells ∧ slots ≤ R.slots) (hW : WH (fg G) b μ H) (hS : va_S (fb b) s.heap H locs) (hsz : ls.size = nL) (hrest : (rest.map fun v => v.category).sum ≤ 8) (hdg : decode cc pc = .ok (.invokevirtual index, 3))
    (kk : ∀ (H1 : Heap) (locs1 : List Loc), WH (fg G) b out.2 H1 → va_S (fb b) s.heap H1 locs1 → W p l e R s m args below meth c H1 locs1 cells slots Q (F0 m (pc + 3) ls (.int out.1 :: rest))) : W p l e R s m args below meth c H locs cells slots Q (F0 m pc ls (.int a1 :: .ref (b + 306) :: rest)) :=
  f_callV (As := [.int a1]) (ci := 12) (c_X12_passes h) ⟨rfl, rfl⟩ rfl (ky_lm kyf_306 (by decide)) (wF_12 kyf_306) q_1629 qp_42 q_14 q_1630 rfl ⟨by decide +kernel, by decide +kernel, (show (parseMethodDescriptor yX12_passes.desc).map (fun d => d.parameters.length) = some 1 by decide +kernel)⟩ F hl hR hW hS hsz hrest rfl hdg kk
set_option maxHeartbeats 4000000 in
set_option maxRecDepth 100000 in
theorem wk_X12_begin {a0 : Nat} {μ : Mm} {out : Mm} (F : FX (fg G) b RX12 cX12_begin 1 p s m args meth c) (hr : meth.sig.returnType = none) (ha0 : ky a0 = 24) (h : sh_X12_begin a0 μ = some out) (hW : WH (fg G) b μ H) (hS : va_S (fb b) s.heap H locs) (hl : lv_has ls 1 [(0, .ref (b + a0))]) : W p l e ({ frames := 0, cells := 0, slots := 0, locals := 0 } : Room) s m args below meth c H locs 0 0 (MQ below (QW (fg G) b out none) args s 0 0 (fb b)) (F0 m 0 ls []) := by
  have hx := F.1
  have hb := F.2.1
  unfold sh_X12_begin at h
  refine lv_aload_n hx hb dX12_begin_0 rfl (lv_at hl 0 rfl) ?_
  refine lv_iconst (v := (3 : Int32)) hx hb dX12_begin_1 (by decide) ?_
  refine lv_iconst (v := (2 : Int32)) hx hb dX12_begin_2 (by decide) ?_
  obtain ⟨μ1, qμ1, h⟩ := ob h
  refine fm_iast ha0 F hW hS qμ1 dX12_begin_3 (fun H locs hW hS => ?_)
  refine lv_aload_n hx hb dX12_begin_4 rfl (lv_at hl 0 rfl) ?_
  refine lv_iconst (v := (4 : Int32)) hx hb dX12_begin_5 (by decide) ?_
  refine lv_iconst (v := (3 : Int32)) hx hb dX12_begin_6 (by decide) ?_
  obtain ⟨μ2, qμ2, h⟩ := ob h
  refine fm_iast ha0 F hW hS qμ2 dX12_begin_7 (fun H locs hW hS => ?_)
  refine lv_aload_n hx hb dX12_begin_8 rfl (lv_at hl 0 rfl) ?_
  refine lv_iconst (v := (5 : Int32)) hx hb dX12_begin_9 (by decide) ?_
  refine lv_iconst (v := (1 : Int32)) hx hb dX12_begin_10 (by decide) ?_
  obtain ⟨μ3, qμ3, h⟩ := ob h
  refine fm_iast ha0 F hW hS qμ3 dX12_begin_11 (fun H locs hW hS => ?_)
  refine lv_aload_n hx hb dX12_begin_12 rfl (lv_at hl 0 rfl) ?_
  refine lv_bipush (v := (6 : Int32)) hx hb dX12_begin_13 (by decide) ?_
  refine lv_iconst (v := (2 : Int32)) hx hb dX12_begin_15 (by decide) ?_
  obtain ⟨μ4, qμ4, h⟩ := ob h
  refine fm_iast ha0 F hW hS qμ4 dX12_begin_16 (fun H locs hW hS => ?_)
  refine lv_aload_n hx hb dX12_begin_17 rfl (lv_at hl 0 rfl) ?_
  refine lv_bipush (v := (7 : Int32)) hx hb dX12_begin_18 (by decide) ?_
  refine lv_iconst (v := (3 : Int32)) hx hb dX12_begin_20 (by decide) ?_
  obtain ⟨μ5, qμ5, h⟩ := ob h
  refine fm_iast ha0 F hW hS qμ5 dX12_begin_21 (fun H locs hW hS => ?_)
  cases h
  exact r_void F hr hW hS dX12_begin_22
set_option maxHeartbeats 4000000 in
set_option maxRecDepth 100000 in
theorem c_X12_begin {l : Launch} {G : Gt} {b : Nat} {a0 : Nat} {μ : Mm} {out : Mm} (ha0 : ky a0 = 24) (h : sh_X12_begin a0 μ = some out) : Met l yX12_begin (wU (Cond.code yX12_begin cX12_begin 1 none)) ({ frames := 0, cells := 0, slots := 0, locals := 0 } : Room) (PcW (fg G) b μ [.ref (b + a0)]) (QW (fg G) b out none) 0 0 (fb b) :=
  met_of [.ref (b + a0)] (by decide) (Nat.le_of_ble_eq_true rfl) (fun F hr hW hl => wk_X12_begin F hr ha0 h hW va_S.rf hl)
set_option maxHeartbeats 4000000 in
set_option maxRecDepth 100000 in
theorem k_X12_begin {nL : Nat} (F : FX (fg G) b RX12 cc nL p s m args meth c) {a0 : Nat} {μ : Mm} {out : Mm} (ha0 : ky a0 = 24) (h : sh_X12_begin a0 μ = some out) {index : Nat} (hl : Cond.methodLink RX12 index yX12_begin ∈ TBG) (hR : 0 + 1 ≤ R.frames ∧ 8 + (1 + 11) + 0 ≤ R.locals ∧ cells ≤ R.cells ∧ slots ≤ R.slots) (hW : WH (fg G) b μ H) (hS : va_S (fb b) s.heap H locs) (hsz : ls.size = nL) (hrest : (rest.map fun v => v.category).sum ≤ 8) (hdg : decode cc pc = .ok (.invokestatic index, 3))
    (kk : ∀ (H1 : Heap) (locs1 : List Loc), WH (fg G) b out H1 → va_S (fb b) s.heap H1 locs1 → W p l e R s m args below meth c H1 locs1 cells slots Q (F0 m (pc + 3) ls (rest))) : W p l e R s m args below meth c H locs cells slots Q (F0 m pc ls (.ref (b + a0) :: rest)) :=
  f_callS (As := [.ref (b + a0)]) (c_X12_begin ha0 h) ⟨rfl, rfl⟩ q_1469 q_14 q_1470 rfl ⟨by decide +kernel, by decide +kernel, (show (parseMethodDescriptor yX12_begin.desc).map (fun d => d.parameters.length) = some 1 by decide +kernel)⟩ F hl hR hW hS hsz hrest rfl hdg kk
set_option maxHeartbeats 4000000 in
set_option maxRecDepth 100000 in
theorem wk_X12_of {a1 : Int32} {a2 : Int32} {μ : Mm} {out : Int32} (F : FX (fg G) b RX12 cX12_of 3 p s m args meth c) (hr : meth.sig.returnType = some .int) (h : sh_X12_of a1 a2 μ = some out) (hW : WH (fg G) b μ H) (hS : va_S (fb b) s.heap H locs) (hl : lv_has ls 3 [(0, .ref (b + 306)), (1, .int a1), (2, .int a2)]) : W p l e ({ frames := 0, cells := 0, slots := 0, locals := 0 } : Room) s m args below meth c H locs 0 0 (MQ below (QW (fg G) b μ (some (.int out))) args s 0 0 (fb b)) (F0 m 0 ls []) := by
  have hx := F.1
  have hb := F.2.1
  unfold sh_X12_of at h
  refine lv_aload_n hx hb dX12_of_0 rfl (lv_at hl 0 rfl) ?_
  have pf1 := nd_ky hW.2.1
  refine fl_get12 (v := .ref (b + (μ.2.2 0))) kyf_306 F hW 3 (by decide) q_1474 rfl rfl dX12_of_1 ?_
  refine lv_bipush (v := (12 : Int32)) hx hb dX12_of_4 (by decide) ?_
  refine lv_bipush (v := (102 : Int32)) hx hb dX12_of_6 (by decide) ?_
  refine lv_iload_n hx hb dX12_of_8 rfl (lv_at hl 1 rfl) ?_
  refine lv_imul hx hb dX12_of_9 ?_
  refine lv_iadd hx hb dX12_of_10 ?_
  refine lv_iload_n hx hb dX12_of_11 rfl (lv_at hl 2 rfl) ?_
  refine lv_iadd hx hb dX12_of_12 ?_
  obtain ⟨v2, qv2, h⟩ := ob h
  refine fm_iald pf1 F hW qv2 dX12_of_13 ?_
  cases h
  exact r_int F hr hW hS dX12_of_14
set_option maxHeartbeats 4000000 in
set_option maxRecDepth 100000 in
theorem c_X12_of {l : Launch} {G : Gt} {b : Nat} {a1 : Int32} {a2 : Int32} {μ : Mm} {out : Int32} (h : sh_X12_of a1 a2 μ = some out) : Met l yX12_of (wU (Cond.code yX12_of cX12_of 3 (some .int))) ({ frames := 0, cells := 0, slots := 0, locals := 0 } : Room) (PcW (fg G) b μ [.ref (b + 306), .int a1, .int a2]) (QW (fg G) b μ (some (.int out))) 0 0 (fb b) :=
  met_of [.ref (b + 306), .int a1, .int a2] (by decide) (Nat.le_of_ble_eq_true rfl) (fun F hr hW hl => wk_X12_of F hr h hW va_S.rf hl)
set_option maxHeartbeats 4000000 in
set_option maxRecDepth 100000 in
theorem k_X12_of {own : String} {nL : Nat} (F : FX (fg G) b own cc nL p s m args meth c) {a1 : Int32} {a2 : Int32} {μ : Mm} {out : Int32} (h : sh_X12_of a1 a2 μ = some out) {index : Nat} (hl : Cond.methodLink own index yX12_of ∈ TBG) (hR : 0 + 1 ≤ R.frames ∧ 8 + (3 + 11) + 0 ≤ R.locals ∧ cells ≤ R.cells ∧ slots ≤ R.slots) (hW : WH (fg G) b μ H) (hS : va_S (fb b) s.heap H locs) (hsz : ls.size = nL) (hrest : (rest.map fun v => v.category).sum ≤ 8) (hdg : decode cc pc = .ok (.invokevirtual index, 3))
    (kk : ∀ (H1 : Heap) (locs1 : List Loc), WH (fg G) b μ H1 → va_S (fb b) s.heap H1 locs1 → W p l e R s m args below meth c H1 locs1 cells slots Q (F0 m (pc + 3) ls (.int out :: rest))) : W p l e R s m args below meth c H locs cells slots Q (F0 m pc ls (.int a2 :: .int a1 :: .ref (b + 306) :: rest)) :=
  f_callV (As := [.int a1, .int a2]) (ci := 12) (c_X12_of h) ⟨rfl, rfl⟩ rfl (ky_lm kyf_306 (by decide)) (wF_12 kyf_306) q_1737 qp_61 q_14 q_1738 rfl ⟨by decide +kernel, by decide +kernel, (show (parseMethodDescriptor yX12_of.desc).map (fun d => d.parameters.length) = some 2 by decide +kernel)⟩ F hl hR hW hS hsz hrest rfl hdg kk
set_option maxHeartbeats 4000000 in
set_option maxRecDepth 100000 in
theorem wk_X12_set {a1 : Int32} {a2 : Int32} {a3 : Int32} {μ : Mm} {out : Mm} (F : FX (fg G) b RX12 cX12_set 4 p s m args meth c) (hr : meth.sig.returnType = none) (h : sh_X12_set a1 a2 a3 μ = some out) (hW : WH (fg G) b μ H) (hS : va_S (fb b) s.heap H locs) (hl : lv_has ls 4 [(0, .ref (b + 306)), (1, .int a1), (2, .int a2), (3, .int a3)]) : W p l e ({ frames := 0, cells := 0, slots := 0, locals := 0 } : Room) s m args below meth c H locs 0 0 (MQ below (QW (fg G) b out none) args s 0 0 (fb b)) (F0 m 0 ls []) := by
  have hx := F.1
  have hb := F.2.1
  unfold sh_X12_set at h
  refine lv_aload_n hx hb dX12_set_0 rfl (lv_at hl 0 rfl) ?_
  have pf1 := nd_ky hW.2.1
  refine fl_get12 (v := .ref (b + (μ.2.2 0))) kyf_306 F hW 3 (by decide) q_1474 rfl rfl dX12_set_1 ?_
  refine lv_bipush (v := (12 : Int32)) hx hb dX12_set_4 (by decide) ?_
  refine lv_bipush (v := (102 : Int32)) hx hb dX12_set_6 (by decide) ?_
  refine lv_iload_n hx hb dX12_set_8 rfl (lv_at hl 1 rfl) ?_
  refine lv_imul hx hb dX12_set_9 ?_
  refine lv_iadd hx hb dX12_set_10 ?_
  refine lv_iload_n hx hb dX12_set_11 rfl (lv_at hl 2 rfl) ?_
  refine lv_iadd hx hb dX12_set_12 ?_
  refine lv_iload_n hx hb dX12_set_13 rfl (lv_at hl 3 rfl) ?_
  obtain ⟨μ2, qμ2, h⟩ := ob h
  refine fm_iast pf1 F hW hS qμ2 dX12_set_14 (fun H locs hW hS => ?_)
  cases h
  exact r_void F hr hW hS dX12_set_15
set_option maxHeartbeats 4000000 in
set_option maxRecDepth 100000 in
theorem c_X12_set {l : Launch} {G : Gt} {b : Nat} {a1 : Int32} {a2 : Int32} {a3 : Int32} {μ : Mm} {out : Mm} (h : sh_X12_set a1 a2 a3 μ = some out) : Met l yX12_set (wU (Cond.code yX12_set cX12_set 4 none)) ({ frames := 0, cells := 0, slots := 0, locals := 0 } : Room) (PcW (fg G) b μ [.ref (b + 306), .int a1, .int a2, .int a3]) (QW (fg G) b out none) 0 0 (fb b) :=
  met_of [.ref (b + 306), .int a1, .int a2, .int a3] (by decide) (Nat.le_of_ble_eq_true rfl) (fun F hr hW hl => wk_X12_set F hr h hW va_S.rf hl)
set_option maxHeartbeats 4000000 in
set_option maxRecDepth 100000 in
theorem k_X12_set {own : String} {nL : Nat} (F : FX (fg G) b own cc nL p s m args meth c) {a1 : Int32} {a2 : Int32} {a3 : Int32} {μ : Mm} {out : Mm} (h : sh_X12_set a1 a2 a3 μ = some out) {index : Nat} (hl : Cond.methodLink own index yX12_set ∈ TBG) (hR : 0 + 1 ≤ R.frames ∧ 8 + (4 + 11) + 0 ≤ R.locals ∧ cells ≤ R.cells ∧ slots ≤ R.slots) (hW : WH (fg G) b μ H) (hS : va_S (fb b) s.heap H locs) (hsz : ls.size = nL) (hrest : (rest.map fun v => v.category).sum ≤ 8) (hdg : decode cc pc = .ok (.invokevirtual index, 3))
    (kk : ∀ (H1 : Heap) (locs1 : List Loc), WH (fg G) b out H1 → va_S (fb b) s.heap H1 locs1 → W p l e R s m args below meth c H1 locs1 cells slots Q (F0 m (pc + 3) ls (rest))) : W p l e R s m args below meth c H locs cells slots Q (F0 m pc ls (.int a3 :: .int a2 :: .int a1 :: .ref (b + 306) :: rest)) :=
  f_callV (As := [.int a1, .int a2, .int a3]) (ci := 12) (c_X12_set h) ⟨rfl, rfl⟩ rfl (ky_lm kyf_306 (by decide)) (wF_12 kyf_306) q_1729 qp_59 q_14 q_1730 rfl ⟨by decide +kernel, by decide +kernel, (show (parseMethodDescriptor yX12_set.desc).map (fun d => d.parameters.length) = some 3 by decide +kernel)⟩ F hl hR hW hS hsz hrest rfl hdg kk
set_option maxHeartbeats 4000000 in
set_option maxRecDepth 100000 in
theorem wk_X12_isSection {a1 : Int32} {μ : Mm} {out : Int32} (F : FX (fg G) b RX12 cX12_isSection 2 p s m args meth c) (hr : meth.sig.returnType = some .boolean) (h : sh_X12_isSection a1 μ = some out) (hW : WH (fg G) b μ H) (hS : va_S (fb b) s.heap H locs) (hl : lv_has ls 2 [(0, .ref (b + 306)), (1, .int a1)]) : W p l e ({ frames := 1, cells := 0, slots := 0, locals := 25 } : Room) s m args below meth c H locs 0 0 (MQ below (QW (fg G) b μ (some (.int out))) args s 0 0 (fb b)) (F0 m 0 ls []) := by
  have hx := F.1
  have hb := F.2.1
  unfold sh_X12_isSection at h
  refine lv_iload_n hx hb dX12_isSection_0 rfl (lv_at hl 1 rfl) ?_
  refine lv_i2l hx hb dX12_isSection_1 rfl ?_
  refine lv_lconst (v := (0 : Int64)) hx hb dX12_isSection_2 (by decide) ?_
  refine lv_aload_n hx hb dX12_isSection_3 rfl (lv_at hl 0 rfl) ?_
  have pf1 := nd_ky hW.2.1
  refine fl_get12 (v := .ref (b + (μ.2.2 0))) kyf_306 F hW 3 (by decide) q_1474 rfl rfl dX12_isSection_4 ?_
  refine lv_bipush (v := (9 : Int32)) hx hb dX12_isSection_7 (by decide) ?_
  obtain ⟨v2, qv2, h⟩ := ob h
  refine fm_iald pf1 F hW qv2 dX12_isSection_9 ?_
  refine lv_iconst (v := (1 : Int32)) hx hb dX12_isSection_10 (by decide) ?_
  refine lv_isub hx hb dX12_isSection_11 ?_
  refine lv_i2l hx hb dX12_isSection_12 rfl ?_
  obtain ⟨r3, qr3, h⟩ := ob h
  refine k_X12_in F qr3 q_1643 ⟨Nat.le_of_ble_eq_true rfl, Nat.le_of_ble_eq_true rfl, Nat.le_of_ble_eq_true rfl, Nat.le_of_ble_eq_true rfl⟩ hW hS hl.1 (Nat.le_of_ble_eq_true rfl) dX12_isSection_13 (fun H locs hW hS => ?_)
  obtain ⟨v4, qv4, h⟩ := ob h
  obtain ⟨zv4, qv4⟩ := isB_some qv4
  rw [qv4] at zv4
  rw [qv4]
  cases h
  exact r_bool F hr zv4 hW hS dX12_isSection_16
set_option maxHeartbeats 4000000 in
set_option maxRecDepth 100000 in
theorem c_X12_isSection {l : Launch} {G : Gt} {b : Nat} {a1 : Int32} {μ : Mm} {out : Int32} (h : sh_X12_isSection a1 μ = some out) : Met l yX12_isSection (wU (Cond.code yX12_isSection cX12_isSection 2 (some .boolean))) ({ frames := 1, cells := 0, slots := 0, locals := 25 } : Room) (PcW (fg G) b μ [.ref (b + 306), .int a1]) (QW (fg G) b μ (some (.int out))) 0 0 (fb b) :=
  met_of [.ref (b + 306), .int a1] (by decide) (Nat.le_of_ble_eq_true rfl) (fun F hr hW hl => wk_X12_isSection F hr h hW va_S.rf hl)
set_option maxHeartbeats 4000000 in
set_option maxRecDepth 100000 in
theorem k_X12_isSection {own : String} {nL : Nat} (F : FX (fg G) b own cc nL p s m args meth c) {a1 : Int32} {μ : Mm} {out : Int32} (h : sh_X12_isSection a1 μ = some out) {index : Nat} (hl : Cond.methodLink own index yX12_isSection ∈ TBG) (hR : 1 + 1 ≤ R.frames ∧ 8 + (2 + 11) + 25 ≤ R.locals ∧ cells ≤ R.cells ∧ slots ≤ R.slots) (hW : WH (fg G) b μ H) (hS : va_S (fb b) s.heap H locs) (hsz : ls.size = nL) (hrest : (rest.map fun v => v.category).sum ≤ 8) (hdg : decode cc pc = .ok (.invokevirtual index, 3))
    (kk : ∀ (H1 : Heap) (locs1 : List Loc), WH (fg G) b μ H1 → va_S (fb b) s.heap H1 locs1 → W p l e R s m args below meth c H1 locs1 cells slots Q (F0 m (pc + 3) ls (.int out :: rest))) : W p l e R s m args below meth c H locs cells slots Q (F0 m pc ls (.int a1 :: .ref (b + 306) :: rest)) :=
  f_callV (As := [.int a1]) (ci := 12) (c_X12_isSection h) ⟨rfl, rfl⟩ rfl (ky_lm kyf_306 (by decide)) (wF_12 kyf_306) q_1870 qp_87 q_14 q_1871 rfl ⟨by decide +kernel, by decide +kernel, (show (parseMethodDescriptor yX12_isSection.desc).map (fun d => d.parameters.length) = some 1 by decide +kernel)⟩ F hl hR hW hS hsz hrest rfl hdg kk
set_option maxHeartbeats 4000000 in
set_option maxRecDepth 100000 in
theorem wk_X12_letterOf {a1 : Int32} {a2 : Int32} {a3 : Int32} {μ : Mm} {out : Int32} (F : FX (fg G) b RX12 cX12_letterOf 4 p s m args meth c) (hr : meth.sig.returnType = some .int) (h : sh_X12_letterOf a1 a2 a3 μ = some out) (hW : WH (fg G) b μ H) (hS : va_S (fb b) s.heap H locs) (hl : lv_has ls 4 [(0, .ref (b + 306)), (1, .int a1), (2, .int a2), (3, .int a3)]) : W p l e ({ frames := 1, cells := 0, slots := 0, locals := 22 } : Room) s m args below meth c H locs 0 0 (MQ below (QW (fg G) b μ (some (.int out))) args s 0 0 (fb b)) (F0 m 0 ls []) := by
  have hx := F.1
  have hb := F.2.1
  unfold sh_X12_letterOf at h
  refine lv_aload_n hx hb dX12_letterOf_0 rfl (lv_at hl 0 rfl) ?_
  refine lv_iload_n hx hb dX12_letterOf_1 rfl (lv_at hl 1 rfl) ?_
  refine lv_bipush (v := (6 : Int32)) hx hb dX12_letterOf_2 (by decide) ?_
  refine lv_bipush (v := (12 : Int32)) hx hb dX12_letterOf_4 (by decide) ?_
  refine lv_iload_n hx hb dX12_letterOf_6 rfl (lv_at hl 2 rfl) ?_
  refine lv_imul hx hb dX12_letterOf_7 ?_
  refine lv_iadd hx hb dX12_letterOf_8 ?_
  refine lv_iload_n hx hb dX12_letterOf_9 rfl (lv_at hl 3 rfl) ?_
  refine lv_iadd hx hb dX12_letterOf_10 ?_
  obtain ⟨r1, qr1, h⟩ := ob h
  refine k_X12_of F qr1 q_1735 ⟨Nat.le_of_ble_eq_true rfl, Nat.le_of_ble_eq_true rfl, Nat.le_of_ble_eq_true rfl, Nat.le_of_ble_eq_true rfl⟩ hW hS hl.1 (Nat.le_of_ble_eq_true rfl) dX12_letterOf_11 (fun H locs hW hS => ?_)
  cases h
  exact r_int F hr hW hS dX12_letterOf_14
set_option maxHeartbeats 4000000 in
set_option maxRecDepth 100000 in
theorem c_X12_letterOf {l : Launch} {G : Gt} {b : Nat} {a1 : Int32} {a2 : Int32} {a3 : Int32} {μ : Mm} {out : Int32} (h : sh_X12_letterOf a1 a2 a3 μ = some out) : Met l yX12_letterOf (wU (Cond.code yX12_letterOf cX12_letterOf 4 (some .int))) ({ frames := 1, cells := 0, slots := 0, locals := 22 } : Room) (PcW (fg G) b μ [.ref (b + 306), .int a1, .int a2, .int a3]) (QW (fg G) b μ (some (.int out))) 0 0 (fb b) :=
  met_of [.ref (b + 306), .int a1, .int a2, .int a3] (by decide) (Nat.le_of_ble_eq_true rfl) (fun F hr hW hl => wk_X12_letterOf F hr h hW va_S.rf hl)
set_option maxHeartbeats 4000000 in
set_option maxRecDepth 100000 in
theorem k_X12_letterOf {own : String} {nL : Nat} (F : FX (fg G) b own cc nL p s m args meth c) {a1 : Int32} {a2 : Int32} {a3 : Int32} {μ : Mm} {out : Int32} (h : sh_X12_letterOf a1 a2 a3 μ = some out) {index : Nat} (hl : Cond.methodLink own index yX12_letterOf ∈ TBG) (hR : 1 + 1 ≤ R.frames ∧ 8 + (4 + 11) + 22 ≤ R.locals ∧ cells ≤ R.cells ∧ slots ≤ R.slots) (hW : WH (fg G) b μ H) (hS : va_S (fb b) s.heap H locs) (hsz : ls.size = nL) (hrest : (rest.map fun v => v.category).sum ≤ 8) (hdg : decode cc pc = .ok (.invokevirtual index, 3))
    (kk : ∀ (H1 : Heap) (locs1 : List Loc), WH (fg G) b μ H1 → va_S (fb b) s.heap H1 locs1 → W p l e R s m args below meth c H1 locs1 cells slots Q (F0 m (pc + 3) ls (.int out :: rest))) : W p l e R s m args below meth c H locs cells slots Q (F0 m pc ls (.int a3 :: .int a2 :: .int a1 :: .ref (b + 306) :: rest)) :=
  f_callV (As := [.int a1, .int a2, .int a3]) (ci := 12) (c_X12_letterOf h) ⟨rfl, rfl⟩ rfl (ky_lm kyf_306 (by decide)) (wF_12 kyf_306) q_1846 qp_84 q_14 q_1847 rfl ⟨by decide +kernel, by decide +kernel, (show (parseMethodDescriptor yX12_letterOf.desc).map (fun d => d.parameters.length) = some 3 by decide +kernel)⟩ F hl hR hW hS hsz hrest rfl hdg kk
set_option maxHeartbeats 4000000 in
set_option maxRecDepth 100000 in
theorem wk_X12_appendFour_3 {n : Nat} {a1 : Int32} {out : Mm} (F : FX (fg G) b RX12 cX12_appendFour 3 p s m args meth c) (hr : meth.sig.returnType = none) : ∀ (f : Nat) (x2 : Int32) (μ : Mm) (H : Heap) (locs : List Loc) (ls : Array Slot), sh_X12_appendFour_3 n a1 f x2 μ = some out → WH (fg G) b μ H → va_S (fb b) s.heap H locs → lv_has ls 3 [(0, .ref (b + 306)), (1, .int a1), (2, .int x2)] → W p l e ({ frames := 0, cells := 0, slots := 0, locals := 0 } : Room) s m args below meth c H locs 0 0 (MQ below (QW (fg G) b out none) args s 0 0 (fb b)) (F0 m 3 ls []) := by
  have hx := F.1
  have hb := F.2.1
  intro f
  induction f with
  | zero =>
    intro _ _ _ _ _ h
    rw [sh_X12_appendFour_3] at h
    cases h
  | succ f ih =>
    intro x2 μ H locs ls h hW hS hl
    rw [sh_X12_appendFour_3] at h
    have hk3 := ih
    refine lv_iload_n hx hb dX12_appendFour_3 rfl (lv_at hl 2 rfl) ?_
    refine lv_if_lt (tgt := 36) hx hb dX12_appendFour_4 (by decide) (fun cc => ?_) (fun cc => ?_)
    · replace h := (if_pos cc).symm.trans h
      cases h
      exact r_void F hr hW hS dX12_appendFour_36
    · replace h := (if_neg cc).symm.trans h
      refine lv_aload_n hx hb dX12_appendFour_7 rfl (lv_at hl 0 rfl) ?_
      refine fl_get12 (v := .ref (b + 309)) kyf_306 F hW 4 (by decide) q_1475 rfl rfl dX12_appendFour_8 ?_
      refine lv_aload_n hx hb dX12_appendFour_11 rfl (lv_at hl 0 rfl) ?_
      refine fl_get12 (v := .int (μ.1 306 5)) kyf_306 F hW 5 (by decide) q_1476 rfl rfl dX12_appendFour_12 ?_
      refine lv_iload_n hx hb dX12_appendFour_15 rfl (lv_at hl 1 rfl) ?_
      refine lv_iload_n hx hb dX12_appendFour_16 rfl (lv_at hl 2 rfl) ?_
      refine lv_ishr hx hb dX12_appendFour_17 ?_
      refine lv_i2b hx hb dX12_appendFour_18 rfl ?_
      obtain ⟨μ1, qμ1, h⟩ := ob h
      refine fm_bast kyf_309 F hW hS qμ1 dX12_appendFour_19 (fun H locs hW hS => ?_)
      refine lv_aload_n hx hb dX12_appendFour_20 rfl (lv_at hl 0 rfl) ?_
      refine lv_dup hx hb dX12_appendFour_21 rfl ?_
      refine fl_get12 (v := .int (μ1.1 306 5)) kyf_306 F hW 5 (by decide) q_1476 rfl rfl dX12_appendFour_22 ?_
      refine lv_iconst (v := (1 : Int32)) hx hb dX12_appendFour_25 (by decide) ?_
      refine lv_iadd hx hb dX12_appendFour_26 ?_
      obtain ⟨μ2, hmμ2, h⟩ := ob h
      refine fl_put12_5 kyf_306 F hW hS q_1476 hmμ2 dX12_appendFour_27 (fun H locs hW hS => ?_)
      refine lv_iinc (v := (x2 + (-8 : Int32))) (lv' := [(2, .int (x2 + (-8 : Int32))), (0, .ref (b + 306)), (1, .int a1)]) hx hb dX12_appendFour_30 hl (k := 2) rfl rfl (by decide) rfl (fun ls hl => ?_)
      refine lv_goto (tgt := 3) hx hb dX12_appendFour_33 (by decide) ?_
      exact hk3 _ _ _ _ _ h hW hS (lv_sub hl [1, 2, 0] rfl)
set_option maxHeartbeats 4000000 in
set_option maxRecDepth 100000 in
theorem wk_X12_appendFour {n : Nat} {a1 : Int32} {μ : Mm} {out : Mm} (F : FX (fg G) b RX12 cX12_appendFour 3 p s m args meth c) (hr : meth.sig.returnType = none) (h : sh_X12_appendFour n a1 μ = some out) (hW : WH (fg G) b μ H) (hS : va_S (fb b) s.heap H locs) (hl : lv_has ls 3 [(0, .ref (b + 306)), (1, .int a1)]) : W p l e ({ frames := 0, cells := 0, slots := 0, locals := 0 } : Room) s m args below meth c H locs 0 0 (MQ below (QW (fg G) b out none) args s 0 0 (fb b)) (F0 m 0 ls []) := by
  have hx := F.1
  have hb := F.2.1
  unfold sh_X12_appendFour at h
  refine lv_bipush (v := (24 : Int32)) hx hb dX12_appendFour_0 (by decide) ?_
  refine lv_istore_n (lv' := [(2, .int (24 : Int32)), (0, .ref (b + 306)), (1, .int a1)]) hx hb dX12_appendFour_2 rfl hl (by decide) rfl (fun ls hl => ?_)
  exact wk_X12_appendFour_3 F hr n _ _ _ _ _ h hW hS (lv_sub hl [1, 2, 0] rfl)
set_option maxHeartbeats 4000000 in
set_option maxRecDepth 100000 in
theorem c_X12_appendFour {l : Launch} {G : Gt} {b : Nat} {n : Nat} {a1 : Int32} {μ : Mm} {out : Mm} (h : sh_X12_appendFour n a1 μ = some out) : Met l yX12_appendFour (wU (Cond.code yX12_appendFour cX12_appendFour 3 none)) ({ frames := 0, cells := 0, slots := 0, locals := 0 } : Room) (PcW (fg G) b μ [.ref (b + 306), .int a1]) (QW (fg G) b out none) 0 0 (fb b) :=
  met_of [.ref (b + 306), .int a1] (by decide) (Nat.le_of_ble_eq_true rfl) (fun F hr hW hl => wk_X12_appendFour F hr h hW va_S.rf hl)
set_option maxHeartbeats 4000000 in
set_option maxRecDepth 100000 in
theorem k_X12_appendFour {own : String} {nL : Nat} (F : FX (fg G) b own cc nL p s m args meth c) {n : Nat} {a1 : Int32} {μ : Mm} {out : Mm} (h : sh_X12_appendFour n a1 μ = some out) {index : Nat} (hl : Cond.methodLink own index yX12_appendFour ∈ TBG) (hR : 0 + 1 ≤ R.frames ∧ 8 + (3 + 11) + 0 ≤ R.locals ∧ cells ≤ R.cells ∧ slots ≤ R.slots) (hW : WH (fg G) b μ H) (hS : va_S (fb b) s.heap H locs) (hsz : ls.size = nL) (hrest : (rest.map fun v => v.category).sum ≤ 8) (hdg : decode cc pc = .ok (.invokevirtual index, 3))
    (kk : ∀ (H1 : Heap) (locs1 : List Loc), WH (fg G) b out H1 → va_S (fb b) s.heap H1 locs1 → W p l e R s m args below meth c H1 locs1 cells slots Q (F0 m (pc + 3) ls (rest))) : W p l e R s m args below meth c H locs cells slots Q (F0 m pc ls (.int a1 :: .ref (b + 306) :: rest)) :=
  f_callV (As := [.int a1]) (ci := 12) (c_X12_appendFour h) ⟨rfl, rfl⟩ rfl (ky_lm kyf_306 (by decide)) (wF_12 kyf_306) q_1637 qp_44 q_14 q_1638 rfl ⟨by decide +kernel, by decide +kernel, (show (parseMethodDescriptor yX12_appendFour.desc).map (fun d => d.parameters.length) = some 1 by decide +kernel)⟩ F hl hR hW hS hsz hrest rfl hdg kk
set_option maxHeartbeats 4000000 in
set_option maxRecDepth 100000 in
theorem wk_X12_append_19 {n : Nat} {a1 : Int32} {a2 : Int32} {a3 : Int32} {a4 : Int32} {a5 : Int32} {s1 : Int32} {μ : Mm} {out : (Int32 × Mm)} (F : FX (fg G) b RX12 cX12_append 6 p s m args meth c) (hr : meth.sig.returnType = some .int) (h : sh_X12_append_19 n a1 a2 a3 a4 a5 s1 μ = some out) (hW : WH (fg G) b μ H) (hS : va_S (fb b) s.heap H locs) (hl : lv_has ls 6 [(0, .ref (b + 306)), (1, .int a1), (2, .int a2), (3, .int a3), (4, .int a4), (5, .int a5)]) : W p l e ({ frames := 2, cells := 0, slots := 0, locals := 44 } : Room) s m args below meth c H locs 0 0 (MQ below (QW (fg G) b out.2 (some (.int out.1))) args s 0 0 (fb b)) (F0 m 19 ls [.int s1, .ref (b + 306)]) := by
  have hx := F.1
  have hb := F.2.1
  unfold sh_X12_append_19 at h
  obtain ⟨r1, qr1, h⟩ := ob h
  refine k_X12_passes F qr1 q_1627 ⟨Nat.le_of_ble_eq_true rfl, Nat.le_of_ble_eq_true rfl, Nat.le_of_ble_eq_true rfl, Nat.le_of_ble_eq_true rfl⟩ hW hS hl.1 (Nat.le_of_ble_eq_true rfl) dX12_append_19 (fun H locs hW hS => ?_)
  refine lv_if_ne (tgt := 27) hx hb dX12_append_22 (by decide) (fun cc => ?_) (fun cc => ?_)
  · replace h := (if_neg cc).symm.trans h
    refine lv_aload_n hx hb dX12_append_27 rfl (lv_at hl 0 rfl) ?_
    refine lv_iload_n hx hb dX12_append_28 rfl (lv_at hl 1 rfl) ?_
    obtain ⟨r2, qr2, h⟩ := ob h
    refine k_X12_appendFour F qr2 q_1635 ⟨Nat.le_of_ble_eq_true rfl, Nat.le_of_ble_eq_true rfl, Nat.le_of_ble_eq_true rfl, Nat.le_of_ble_eq_true rfl⟩ hW hS hl.1 (Nat.le_of_ble_eq_true rfl) dX12_append_29 (fun H locs hW hS => ?_)
    refine lv_aload_n hx hb dX12_append_32 rfl (lv_at hl 0 rfl) ?_
    refine lv_iload_n hx hb dX12_append_33 rfl (lv_at hl 2 rfl) ?_
    obtain ⟨r3, qr3, h⟩ := ob h
    refine k_X12_appendFour F qr3 q_1635 ⟨Nat.le_of_ble_eq_true rfl, Nat.le_of_ble_eq_true rfl, Nat.le_of_ble_eq_true rfl, Nat.le_of_ble_eq_true rfl⟩ hW hS hl.1 (Nat.le_of_ble_eq_true rfl) dX12_append_34 (fun H locs hW hS => ?_)
    refine lv_aload_n hx hb dX12_append_37 rfl (lv_at hl 0 rfl) ?_
    refine lv_iload_n hx hb dX12_append_38 rfl (lv_at hl 3 rfl) ?_
    obtain ⟨r4, qr4, h⟩ := ob h
    refine k_X12_appendFour F qr4 q_1635 ⟨Nat.le_of_ble_eq_true rfl, Nat.le_of_ble_eq_true rfl, Nat.le_of_ble_eq_true rfl, Nat.le_of_ble_eq_true rfl⟩ hW hS hl.1 (Nat.le_of_ble_eq_true rfl) dX12_append_39 (fun H locs hW hS => ?_)
    refine lv_aload_n hx hb dX12_append_42 rfl (lv_at hl 0 rfl) ?_
    refine lv_iload hx hb dX12_append_43 (lv_at hl 4 rfl) ?_
    obtain ⟨r5, qr5, h⟩ := ob h
    refine k_X12_appendFour F qr5 q_1635 ⟨Nat.le_of_ble_eq_true rfl, Nat.le_of_ble_eq_true rfl, Nat.le_of_ble_eq_true rfl, Nat.le_of_ble_eq_true rfl⟩ hW hS hl.1 (Nat.le_of_ble_eq_true rfl) dX12_append_45 (fun H locs hW hS => ?_)
    refine lv_aload_n hx hb dX12_append_48 rfl (lv_at hl 0 rfl) ?_
    refine lv_iload hx hb dX12_append_49 (lv_at hl 5 rfl) ?_
    obtain ⟨r6, qr6, h⟩ := ob h
    refine k_X12_appendFour F qr6 q_1635 ⟨Nat.le_of_ble_eq_true rfl, Nat.le_of_ble_eq_true rfl, Nat.le_of_ble_eq_true rfl, Nat.le_of_ble_eq_true rfl⟩ hW hS hl.1 (Nat.le_of_ble_eq_true rfl) dX12_append_51 (fun H locs hW hS => ?_)
    refine lv_aload_n hx hb dX12_append_54 rfl (lv_at hl 0 rfl) ?_
    refine fl_get12 (v := .int (r6.1 306 5)) kyf_306 F hW 5 (by decide) q_1476 rfl rfl dX12_append_55 ?_
    cases h
    exact r_int F hr hW hS dX12_append_58
  · replace h := (if_pos cc).symm.trans h
    refine lv_iconst (v := (0 : Int32)) hx hb dX12_append_25 (by decide) ?_
    cases h
    exact r_int F hr hW hS dX12_append_26
set_option maxHeartbeats 4000000 in
set_option maxRecDepth 100000 in
theorem wk_X12_append {n : Nat} {a1 : Int32} {a2 : Int32} {a3 : Int32} {a4 : Int32} {a5 : Int32} {μ : Mm} {out : (Int32 × Mm)} (F : FX (fg G) b RX12 cX12_append 6 p s m args meth c) (hr : meth.sig.returnType = some .int) (h : sh_X12_append n a1 a2 a3 a4 a5 μ = some out) (hW : WH (fg G) b μ H) (hS : va_S (fb b) s.heap H locs) (hl : lv_has ls 6 [(0, .ref (b + 306)), (1, .int a1), (2, .int a2), (3, .int a3), (4, .int a4), (5, .int a5)]) : W p l e ({ frames := 2, cells := 0, slots := 0, locals := 44 } : Room) s m args below meth c H locs 0 0 (MQ below (QW (fg G) b out.2 (some (.int out.1))) args s 0 0 (fb b)) (F0 m 0 ls []) := by
  have hx := F.1
  have hb := F.2.1
  unfold sh_X12_append at h
  refine lv_aload_n hx hb dX12_append_0 rfl (lv_at hl 0 rfl) ?_
  refine lv_aload_n hx hb dX12_append_1 rfl (lv_at hl 0 rfl) ?_
  refine fl_get12 (v := .int (μ.1 306 5)) kyf_306 F hW 5 (by decide) q_1476 rfl rfl dX12_append_2 ?_
  refine lv_bipush (v := (20 : Int32)) hx hb dX12_append_5 (by decide) ?_
  refine lv_iadd hx hb dX12_append_7 ?_
  refine lv_sipush (v := (1100 : Int32)) hx hb dX12_append_8 (by decide) ?_
  refine lv_icmp_gt (tgt := 18) hx hb dX12_append_11 (by decide) (fun cc => ?_) (fun cc => ?_)
  · replace h := (if_pos cc).symm.trans h
    refine lv_iconst (v := (0 : Int32)) hx hb dX12_append_18 (by decide) ?_
    exact wk_X12_append_19 F hr h hW hS (lv_sub hl [0, 1, 2, 3, 4, 5] rfl)
  · replace h := (if_neg cc).symm.trans h
    refine lv_iconst (v := (1 : Int32)) hx hb dX12_append_14 (by decide) ?_
    refine lv_goto (tgt := 19) hx hb dX12_append_15 (by decide) ?_
    exact wk_X12_append_19 F hr h hW hS (lv_sub hl [0, 1, 2, 3, 4, 5] rfl)
set_option maxHeartbeats 4000000 in
set_option maxRecDepth 100000 in
theorem c_X12_append {l : Launch} {G : Gt} {b : Nat} {n : Nat} {a1 : Int32} {a2 : Int32} {a3 : Int32} {a4 : Int32} {a5 : Int32} {μ : Mm} {out : (Int32 × Mm)} (h : sh_X12_append n a1 a2 a3 a4 a5 μ = some out) : Met l yX12_append (wU (Cond.code yX12_append cX12_append 6 (some .int))) ({ frames := 2, cells := 0, slots := 0, locals := 44 } : Room) (PcW (fg G) b μ [.ref (b + 306), .int a1, .int a2, .int a3, .int a4, .int a5]) (QW (fg G) b out.2 (some (.int out.1))) 0 0 (fb b) :=
  met_of [.ref (b + 306), .int a1, .int a2, .int a3, .int a4, .int a5] (by decide) (Nat.le_of_ble_eq_true rfl) (fun F hr hW hl => wk_X12_append F hr h hW va_S.rf hl)
set_option maxHeartbeats 4000000 in
set_option maxRecDepth 100000 in
theorem k_X12_append {own : String} {nL : Nat} (F : FX (fg G) b own cc nL p s m args meth c) {n : Nat} {a1 : Int32} {a2 : Int32} {a3 : Int32} {a4 : Int32} {a5 : Int32} {μ : Mm} {out : (Int32 × Mm)} (h : sh_X12_append n a1 a2 a3 a4 a5 μ = some out) {index : Nat} (hl : Cond.methodLink own index yX12_append ∈ TBG) (hR : 2 + 1 ≤ R.frames ∧ 8 + (6 + 11) + 44 ≤ R.locals ∧ cells ≤ R.cells ∧ slots ≤ R.slots) (hW : WH (fg G) b μ H) (hS : va_S (fb b) s.heap H locs) (hsz : ls.size = nL) (hrest : (rest.map fun v => v.category).sum ≤ 8) (hdg : decode cc pc = .ok (.invokevirtual index, 3))
    (kk : ∀ (H1 : Heap) (locs1 : List Loc), WH (fg G) b out.2 H1 → va_S (fb b) s.heap H1 locs1 → W p l e R s m args below meth c H1 locs1 cells slots Q (F0 m (pc + 3) ls (.int out.1 :: rest))) : W p l e R s m args below meth c H locs cells slots Q (F0 m pc ls (.int a5 :: .int a4 :: .int a3 :: .int a2 :: .int a1 :: .ref (b + 306) :: rest)) :=
  f_callV (As := [.int a1, .int a2, .int a3, .int a4, .int a5]) (ci := 12) (c_X12_append h) ⟨rfl, rfl⟩ rfl (ky_lm kyf_306 (by decide)) (wF_12 kyf_306) q_1624 q_1625 q_14 q_1626 rfl ⟨by decide +kernel, by decide +kernel, (show (parseMethodDescriptor yX12_append.desc).map (fun d => d.parameters.length) = some 5 by decide +kernel)⟩ F hl hR hW hS hsz hrest rfl hdg kk
set_option maxHeartbeats 4000000 in
set_option maxRecDepth 100000 in
theorem wk_X12_truncate {a1 : Int32} {μ : Mm} {out : Mm} (F : FX (fg G) b RX12 cX12_truncate 2 p s m args meth c) (hr : meth.sig.returnType = none) (h : sh_X12_truncate a1 μ = some out) (hW : WH (fg G) b μ H) (hS : va_S (fb b) s.heap H locs) (hl : lv_has ls 2 [(0, .ref (b + 306)), (1, .int a1)]) : W p l e ({ frames := 2, cells := 0, slots := 0, locals := 44 } : Room) s m args below meth c H locs 0 0 (MQ below (QW (fg G) b out none) args s 0 0 (fb b)) (F0 m 0 ls []) := by
  have hx := F.1
  have hb := F.2.1
  unfold sh_X12_truncate at h
  refine lv_aload_n hx hb dX12_truncate_0 rfl (lv_at hl 0 rfl) ?_
  refine lv_iload_n hx hb dX12_truncate_1 rfl (lv_at hl 1 rfl) ?_
  refine lv_i2l hx hb dX12_truncate_2 rfl ?_
  refine lv_lconst (v := (0 : Int64)) hx hb dX12_truncate_3 (by decide) ?_
  refine lv_aload_n hx hb dX12_truncate_4 rfl (lv_at hl 0 rfl) ?_
  refine fl_get12 (v := .int (μ.1 306 5)) kyf_306 F hW 5 (by decide) q_1476 rfl rfl dX12_truncate_5 ?_
  refine lv_i2l hx hb dX12_truncate_8 rfl ?_
  obtain ⟨r1, qr1, h⟩ := ob h
  refine k_X12_in F qr1 q_1643 ⟨Nat.le_of_ble_eq_true rfl, Nat.le_of_ble_eq_true rfl, Nat.le_of_ble_eq_true rfl, Nat.le_of_ble_eq_true rfl⟩ hW hS hl.1 (Nat.le_of_ble_eq_true rfl) dX12_truncate_9 (fun H locs hW hS => ?_)
  obtain ⟨r2, qr2, h⟩ := ob h
  refine k_X12_passes F qr2 q_1627 ⟨Nat.le_of_ble_eq_true rfl, Nat.le_of_ble_eq_true rfl, Nat.le_of_ble_eq_true rfl, Nat.le_of_ble_eq_true rfl⟩ hW hS hl.1 (Nat.le_of_ble_eq_true rfl) dX12_truncate_12 (fun H locs hW hS => ?_)
  refine lv_if_eq (tgt := 23) hx hb dX12_truncate_15 (by decide) (fun cc => ?_) (fun cc => ?_)
  · replace h := (if_pos cc).symm.trans h
    cases h
    exact r_void F hr hW hS dX12_truncate_23
  · replace h := (if_neg cc).symm.trans h
    refine lv_aload_n hx hb dX12_truncate_18 rfl (lv_at hl 0 rfl) ?_
    refine lv_iload_n hx hb dX12_truncate_19 rfl (lv_at hl 1 rfl) ?_
    obtain ⟨μ3, hmμ3, h⟩ := ob h
    refine fl_put12_5 kyf_306 F hW hS q_1476 hmμ3 dX12_truncate_20 (fun H locs hW hS => ?_)
    cases h
    exact r_void F hr hW hS dX12_truncate_23
set_option maxHeartbeats 4000000 in
set_option maxRecDepth 100000 in
theorem c_X12_truncate {l : Launch} {G : Gt} {b : Nat} {a1 : Int32} {μ : Mm} {out : Mm} (h : sh_X12_truncate a1 μ = some out) : Met l yX12_truncate (wU (Cond.code yX12_truncate cX12_truncate 2 none)) ({ frames := 2, cells := 0, slots := 0, locals := 44 } : Room) (PcW (fg G) b μ [.ref (b + 306), .int a1]) (QW (fg G) b out none) 0 0 (fb b) :=
  met_of [.ref (b + 306), .int a1] (by decide) (Nat.le_of_ble_eq_true rfl) (fun F hr hW hl => wk_X12_truncate F hr h hW va_S.rf hl)
set_option maxHeartbeats 4000000 in
set_option maxRecDepth 100000 in
theorem k_X12_truncate {own : String} {nL : Nat} (F : FX (fg G) b own cc nL p s m args meth c) {a1 : Int32} {μ : Mm} {out : Mm} (h : sh_X12_truncate a1 μ = some out) {index : Nat} (hl : Cond.methodLink own index yX12_truncate ∈ TBG) (hR : 2 + 1 ≤ R.frames ∧ 8 + (2 + 11) + 44 ≤ R.locals ∧ cells ≤ R.cells ∧ slots ≤ R.slots) (hW : WH (fg G) b μ H) (hS : va_S (fb b) s.heap H locs) (hsz : ls.size = nL) (hrest : (rest.map fun v => v.category).sum ≤ 8) (hdg : decode cc pc = .ok (.invokevirtual index, 3))
    (kk : ∀ (H1 : Heap) (locs1 : List Loc), WH (fg G) b out H1 → va_S (fb b) s.heap H1 locs1 → W p l e R s m args below meth c H1 locs1 cells slots Q (F0 m (pc + 3) ls (rest))) : W p l e R s m args below meth c H locs cells slots Q (F0 m pc ls (.int a1 :: .ref (b + 306) :: rest)) :=
  f_callV (As := [.int a1]) (ci := 12) (c_X12_truncate h) ⟨rfl, rfl⟩ rfl (ky_lm kyf_306 (by decide)) (wF_12 kyf_306) q_1640 q_1641 q_14 q_1642 rfl ⟨by decide +kernel, by decide +kernel, (show (parseMethodDescriptor yX12_truncate.desc).map (fun d => d.parameters.length) = some 1 by decide +kernel)⟩ F hl hR hW hS hsz hrest rfl hdg kk
set_option maxHeartbeats 4000000 in
set_option maxRecDepth 100000 in
theorem wk_X12_good {μ : Mm} {out : Int32} (F : FX (fg G) b RX12 cX12_good 1 p s m args meth c) (hr : meth.sig.returnType = some .boolean) (h : sh_X12_good  μ = some out) (hW : WH (fg G) b μ H) (hS : va_S (fb b) s.heap H locs) (hl : lv_has ls 1 [(0, .ref (b + 306))]) : W p l e ({ frames := 0, cells := 0, slots := 0, locals := 0 } : Room) s m args below meth c H locs 0 0 (MQ below (QW (fg G) b μ (some (.int out))) args s 0 0 (fb b)) (F0 m 0 ls []) := by
  have hx := F.1
  have hb := F.2.1
  unfold sh_X12_good at h
  refine lv_aload_n hx hb dX12_good_0 rfl (lv_at hl 0 rfl) ?_
  refine fl_get12 (v := .int (μ.1 306 11)) kyf_306 F hW 11 (by decide) q_1482 rfl rfl dX12_good_1 ?_
  refine lv_if_ne (tgt := 11) hx hb dX12_good_4 (by decide) (fun cc => ?_) (fun cc => ?_)
  · replace h := (if_neg cc).symm.trans h
    refine lv_iconst (v := (0 : Int32)) hx hb dX12_good_11 (by decide) ?_
    cases h
    exact r_bool F hr (Or.inl rfl) hW hS dX12_good_12
  · replace h := (if_pos cc).symm.trans h
    refine lv_iconst (v := (1 : Int32)) hx hb dX12_good_7 (by decide) ?_
    refine lv_goto (tgt := 12) hx hb dX12_good_8 (by decide) ?_
    cases h
    exact r_bool F hr (Or.inr rfl) hW hS dX12_good_12
set_option maxHeartbeats 4000000 in
set_option maxRecDepth 100000 in
theorem c_X12_good {l : Launch} {G : Gt} {b : Nat} {μ : Mm} {out : Int32} (h : sh_X12_good  μ = some out) : Met l yX12_good (wU (Cond.code yX12_good cX12_good 1 (some .boolean))) ({ frames := 0, cells := 0, slots := 0, locals := 0 } : Room) (PcW (fg G) b μ [.ref (b + 306)]) (QW (fg G) b μ (some (.int out))) 0 0 (fb b) :=
  met_of [.ref (b + 306)] (by decide) (Nat.le_of_ble_eq_true rfl) (fun F hr hW hl => wk_X12_good F hr h hW va_S.rf hl)
set_option maxHeartbeats 4000000 in
set_option maxRecDepth 100000 in
theorem k_X12_good {own : String} {nL : Nat} (F : FX (fg G) b own cc nL p s m args meth c) {μ : Mm} {out : Int32} (h : sh_X12_good  μ = some out) {index : Nat} (hl : Cond.methodLink own index yX12_good ∈ TBG) (hR : 0 + 1 ≤ R.frames ∧ 8 + (1 + 11) + 0 ≤ R.locals ∧ cells ≤ R.cells ∧ slots ≤ R.slots) (hW : WH (fg G) b μ H) (hS : va_S (fb b) s.heap H locs) (hsz : ls.size = nL) (hrest : (rest.map fun v => v.category).sum ≤ 8) (hdg : decode cc pc = .ok (.invokevirtual index, 3))
    (kk : ∀ (H1 : Heap) (locs1 : List Loc), WH (fg G) b μ H1 → va_S (fb b) s.heap H1 locs1 → W p l e R s m args below meth c H1 locs1 cells slots Q (F0 m (pc + 3) ls (.int out :: rest))) : W p l e R s m args below meth c H locs cells slots Q (F0 m pc ls (.ref (b + 306) :: rest)) :=
  f_callV (As := []) (ci := 12) (c_X12_good h) ⟨rfl, rfl⟩ rfl (ky_lm kyf_306 (by decide)) (wF_12 kyf_306) q_1675 qp_49 q_14 q_1676 rfl ⟨by decide +kernel, by decide +kernel, (show (parseMethodDescriptor yX12_good.desc).map (fun d => d.parameters.length) = some 0 by decide +kernel)⟩ F hl hR hW hS hsz hrest rfl hdg kk
set_option maxHeartbeats 4000000 in
set_option maxRecDepth 100000 in
theorem wk_X12_errs {a1 : Int32} {μ : Mm} {out : Mm} (F : FX (fg G) b RX12 cX12_errs 2 p s m args meth c) (hr : meth.sig.returnType = none) (h : sh_X12_errs a1 μ = some out) (hW : WH (fg G) b μ H) (hS : va_S (fb b) s.heap H locs) (hl : lv_has ls 2 [(0, .ref (b + 306)), (1, .int a1)]) : W p l e ({ frames := 1, cells := 0, slots := 0, locals := 20 } : Room) s m args below meth c H locs 0 0 (MQ below (QW (fg G) b out none) args s 0 0 (fb b)) (F0 m 0 ls []) := by
  have hx := F.1
  have hb := F.2.1
  unfold sh_X12_errs at h
  refine lv_aload_n hx hb dX12_errs_0 rfl (lv_at hl 0 rfl) ?_
  obtain ⟨r1, qr1, h⟩ := ob h
  refine k_X12_good F qr1 q_1673 ⟨Nat.le_of_ble_eq_true rfl, Nat.le_of_ble_eq_true rfl, Nat.le_of_ble_eq_true rfl, Nat.le_of_ble_eq_true rfl⟩ hW hS hl.1 (Nat.le_of_ble_eq_true rfl) dX12_errs_1 (fun H locs hW hS => ?_)
  refine lv_if_ne (tgt := 8) hx hb dX12_errs_4 (by decide) (fun cc => ?_) (fun cc => ?_)
  · replace h := (if_neg cc).symm.trans h
    refine lv_aload_n hx hb dX12_errs_8 rfl (lv_at hl 0 rfl) ?_
    refine lv_iload_n hx hb dX12_errs_9 rfl (lv_at hl 1 rfl) ?_
    obtain ⟨μ2, hmμ2, h⟩ := ob h
    refine fl_put12_11 kyf_306 F hW hS q_1482 hmμ2 dX12_errs_10 (fun H locs hW hS => ?_)
    refine lv_aload_n hx hb dX12_errs_13 rfl (lv_at hl 0 rfl) ?_
    refine lv_aload_n hx hb dX12_errs_14 rfl (lv_at hl 0 rfl) ?_
    refine fl_get12 (v := .int (μ2.1 306 8)) kyf_306 F hW 8 (by decide) q_1479 rfl rfl dX12_errs_15 ?_
    obtain ⟨μ3, hmμ3, h⟩ := ob h
    refine fl_put12_12 kyf_306 F hW hS q_1483 hmμ3 dX12_errs_18 (fun H locs hW hS => ?_)
    cases h
    exact r_void F hr hW hS dX12_errs_21
  · replace h := (if_pos cc).symm.trans h
    cases h
    exact r_void F hr hW hS dX12_errs_7
set_option maxHeartbeats 4000000 in
set_option maxRecDepth 100000 in
theorem c_X12_errs {l : Launch} {G : Gt} {b : Nat} {a1 : Int32} {μ : Mm} {out : Mm} (h : sh_X12_errs a1 μ = some out) : Met l yX12_errs (wU (Cond.code yX12_errs cX12_errs 2 none)) ({ frames := 1, cells := 0, slots := 0, locals := 20 } : Room) (PcW (fg G) b μ [.ref (b + 306), .int a1]) (QW (fg G) b out none) 0 0 (fb b) :=
  met_of [.ref (b + 306), .int a1] (by decide) (Nat.le_of_ble_eq_true rfl) (fun F hr hW hl => wk_X12_errs F hr h hW va_S.rf hl)
set_option maxHeartbeats 4000000 in
set_option maxRecDepth 100000 in
theorem k_X12_errs {own : String} {nL : Nat} (F : FX (fg G) b own cc nL p s m args meth c) {a1 : Int32} {μ : Mm} {out : Mm} (h : sh_X12_errs a1 μ = some out) {index : Nat} (hl : Cond.methodLink own index yX12_errs ∈ TBG) (hR : 1 + 1 ≤ R.frames ∧ 8 + (2 + 11) + 20 ≤ R.locals ∧ cells ≤ R.cells ∧ slots ≤ R.slots) (hW : WH (fg G) b μ H) (hS : va_S (fb b) s.heap H locs) (hsz : ls.size = nL) (hrest : (rest.map fun v => v.category).sum ≤ 8) (hdg : decode cc pc = .ok (.invokevirtual index, 3))
    (kk : ∀ (H1 : Heap) (locs1 : List Loc), WH (fg G) b out H1 → va_S (fb b) s.heap H1 locs1 → W p l e R s m args below meth c H1 locs1 cells slots Q (F0 m (pc + 3) ls (rest))) : W p l e R s m args below meth c H locs cells slots Q (F0 m pc ls (.int a1 :: .ref (b + 306) :: rest)) :=
  f_callV (As := [.int a1]) (ci := 12) (c_X12_errs h) ⟨rfl, rfl⟩ rfl (ky_lm kyf_306 (by decide)) (wF_12 kyf_306) q_1681 qp_50 q_14 q_1682 rfl ⟨by decide +kernel, by decide +kernel, (show (parseMethodDescriptor yX12_errs.desc).map (fun d => d.parameters.length) = some 1 by decide +kernel)⟩ F hl hR hW hS hsz hrest rfl hdg kk
set_option maxHeartbeats 4000000 in
set_option maxRecDepth 100000 in
theorem wk_X12_byteAt {a1 : Int32} {μ : Mm} {out : Int32} (F : FX (fg G) b RX12 cX12_byteAt 2 p s m args meth c) (hr : meth.sig.returnType = some .int) (h : sh_X12_byteAt a1 μ = some out) (hW : WH (fg G) b μ H) (hS : va_S (fb b) s.heap H locs) (hl : lv_has ls 2 [(0, .ref (b + 306)), (1, .int a1)]) : W p l e ({ frames := 0, cells := 0, slots := 0, locals := 0 } : Room) s m args below meth c H locs 0 0 (MQ below (QW (fg G) b μ (some (.int out))) args s 0 0 (fb b)) (F0 m 0 ls []) := by
  have hx := F.1
  have hb := F.2.1
  unfold sh_X12_byteAt at h
  refine lv_iload_n hx hb dX12_byteAt_0 rfl (lv_at hl 1 rfl) ?_
  refine lv_aload_n hx hb dX12_byteAt_1 rfl (lv_at hl 0 rfl) ?_
  refine fl_get12 (v := .int (μ.1 306 6)) kyf_306 F hW 6 (by decide) q_1477 rfl rfl dX12_byteAt_2 ?_
  refine lv_icmp_ge (tgt := 21) hx hb dX12_byteAt_5 (by decide) (fun cc => ?_) (fun cc => ?_)
  · replace h := (if_pos cc).symm.trans h
    refine lv_iconst (v := (-1 : Int32)) hx hb dX12_byteAt_21 (by decide) ?_
    cases h
    exact r_int F hr hW hS dX12_byteAt_22
  · replace h := (if_neg cc).symm.trans h
    refine lv_aload_n hx hb dX12_byteAt_8 rfl (lv_at hl 0 rfl) ?_
    refine fl_get12 (v := .ref (b + 309)) kyf_306 F hW 4 (by decide) q_1475 rfl rfl dX12_byteAt_9 ?_
    refine lv_iload_n hx hb dX12_byteAt_12 rfl (lv_at hl 1 rfl) ?_
    obtain ⟨v1, qv1, h⟩ := ob h
    refine fm_bald kyf_309 F hW qv1 dX12_byteAt_13 ?_
    refine lv_sipush (v := (255 : Int32)) hx hb dX12_byteAt_14 (by decide) ?_
    refine lv_iand hx hb dX12_byteAt_17 ?_
    refine lv_goto (tgt := 22) hx hb dX12_byteAt_18 (by decide) ?_
    cases h
    exact r_int F hr hW hS dX12_byteAt_22
set_option maxHeartbeats 4000000 in
set_option maxRecDepth 100000 in
theorem c_X12_byteAt {l : Launch} {G : Gt} {b : Nat} {a1 : Int32} {μ : Mm} {out : Int32} (h : sh_X12_byteAt a1 μ = some out) : Met l yX12_byteAt (wU (Cond.code yX12_byteAt cX12_byteAt 2 (some .int))) ({ frames := 0, cells := 0, slots := 0, locals := 0 } : Room) (PcW (fg G) b μ [.ref (b + 306), .int a1]) (QW (fg G) b μ (some (.int out))) 0 0 (fb b) :=
  met_of [.ref (b + 306), .int a1] (by decide) (Nat.le_of_ble_eq_true rfl) (fun F hr hW hl => wk_X12_byteAt F hr h hW va_S.rf hl)
set_option maxHeartbeats 4000000 in
set_option maxRecDepth 100000 in
theorem k_X12_byteAt {own : String} {nL : Nat} (F : FX (fg G) b own cc nL p s m args meth c) {a1 : Int32} {μ : Mm} {out : Int32} (h : sh_X12_byteAt a1 μ = some out) {index : Nat} (hl : Cond.methodLink own index yX12_byteAt ∈ TBG) (hR : 0 + 1 ≤ R.frames ∧ 8 + (2 + 11) + 0 ≤ R.locals ∧ cells ≤ R.cells ∧ slots ≤ R.slots) (hW : WH (fg G) b μ H) (hS : va_S (fb b) s.heap H locs) (hsz : ls.size = nL) (hrest : (rest.map fun v => v.category).sum ≤ 8) (hdg : decode cc pc = .ok (.invokevirtual index, 3))
    (kk : ∀ (H1 : Heap) (locs1 : List Loc), WH (fg G) b μ H1 → va_S (fb b) s.heap H1 locs1 → W p l e R s m args below meth c H1 locs1 cells slots Q (F0 m (pc + 3) ls (.int out :: rest))) : W p l e R s m args below meth c H locs cells slots Q (F0 m pc ls (.int a1 :: .ref (b + 306) :: rest)) :=
  f_callV (As := [.int a1]) (ci := 12) (c_X12_byteAt h) ⟨rfl, rfl⟩ rfl (ky_lm kyf_306 (by decide)) (wF_12 kyf_306) q_1656 qp_46 q_14 q_1657 rfl ⟨by decide +kernel, by decide +kernel, (show (parseMethodDescriptor yX12_byteAt.desc).map (fun d => d.parameters.length) = some 1 by decide +kernel)⟩ F hl hR hW hS hsz hrest rfl hdg kk
set_option maxHeartbeats 4000000 in
set_option maxRecDepth 100000 in
theorem wk_X12_scan_144 {n : Nat} {out : Mm} (F : FX (fg G) b RX12 cX12_scan 2 p s m args meth c) (hr : meth.sig.returnType = none) : ∀ (f : Nat) (μ : Mm) (H : Heap) (locs : List Loc) (ls : Array Slot), sh_X12_scan_144 n f μ = some out → WH (fg G) b μ H → va_S (fb b) s.heap H locs → lv_has ls 2 [(0, .ref (b + 306))] → W p l e ({ frames := 1, cells := 0, slots := 0, locals := 25 } : Room) s m args below meth c H locs 0 0 (MQ below (QW (fg G) b out none) args s 0 0 (fb b)) (F0 m 144 ls []) := by
  have hx := F.1
  have hb := F.2.1
  intro f
  induction f with
  | zero =>
    intro _ _ _ _ h
    rw [sh_X12_scan_144] at h
    cases h
  | succ f ih =>
    intro μ H locs ls h hW hS hl
    rw [sh_X12_scan_144] at h
    have hk144 := ih
    refine lv_aload_n hx hb dX12_scan_144 rfl (lv_at hl 0 rfl) ?_
    refine lv_aload_n hx hb dX12_scan_145 rfl (lv_at hl 0 rfl) ?_
    refine fl_get12 (v := .int (μ.1 306 7)) kyf_306 F hW 7 (by decide) q_1478 rfl rfl dX12_scan_146 ?_
    obtain ⟨r12, qr12, h⟩ := ob h
    refine k_X12_byteAt F qr12 q_1654 ⟨Nat.le_of_ble_eq_true rfl, Nat.le_of_ble_eq_true rfl, Nat.le_of_ble_eq_true rfl, Nat.le_of_ble_eq_true rfl⟩ hW hS hl.1 (Nat.le_of_ble_eq_true rfl) dX12_scan_149 (fun H locs hW hS => ?_)
    refine lv_i2l hx hb dX12_scan_152 rfl ?_
    refine lv_ldc2 hx hb F.2.2.2.1 (F.2.2.2.2.1 _ q_1660) dX12_scan_153 ?_
    refine lv_ldc2 hx hb F.2.2.2.1 (F.2.2.2.2.1 _ q_1661) dX12_scan_156 ?_
    obtain ⟨r13, qr13, h⟩ := ob h
    refine k_X12_in F qr13 q_1643 ⟨Nat.le_of_ble_eq_true rfl, Nat.le_of_ble_eq_true rfl, Nat.le_of_ble_eq_true rfl, Nat.le_of_ble_eq_true rfl⟩ hW hS hl.1 (Nat.le_of_ble_eq_true rfl) dX12_scan_159 (fun H locs hW hS => ?_)
    refine lv_if_eq (tgt := 206) hx hb dX12_scan_162 (by decide) (fun cc => ?_) (fun cc => ?_)
    · replace h := (if_pos cc).symm.trans h
      refine lv_aload_n hx hb dX12_scan_206 rfl (lv_at hl 0 rfl) ?_
      refine lv_iconst (v := (2 : Int32)) hx hb dX12_scan_207 (by decide) ?_
      obtain ⟨μ14, hmμ14, h⟩ := ob h
      refine fl_put12_9 kyf_306 F hW hS q_1480 hmμ14 dX12_scan_208 (fun H locs hW hS => ?_)
      refine lv_goto (tgt := 234) hx hb dX12_scan_211 (by decide) ?_
      cases h
      exact r_void F hr hW hS dX12_scan_234
    · replace h := (if_neg cc).symm.trans h
      refine lv_aload_n hx hb dX12_scan_165 rfl (lv_at hl 0 rfl) ?_
      refine lv_ldc hx hb F.2.2.2.1 (F.2.2.2.2.1 _ q_1662) dX12_scan_166 ?_
      refine lv_bipush (v := (10 : Int32)) hx hb dX12_scan_168 (by decide) ?_
      refine lv_aload_n hx hb dX12_scan_170 rfl (lv_at hl 0 rfl) ?_
      refine fl_get12 (v := .int (μ.1 306 10)) kyf_306 F hW 10 (by decide) q_1481 rfl rfl dX12_scan_171 ?_
      refine lv_imul hx hb dX12_scan_174 ?_
      refine lv_aload_n hx hb dX12_scan_175 rfl (lv_at hl 0 rfl) ?_
      refine lv_aload_n hx hb dX12_scan_176 rfl (lv_at hl 0 rfl) ?_
      refine fl_get12 (v := .int (μ.1 306 7)) kyf_306 F hW 7 (by decide) q_1478 rfl rfl dX12_scan_177 ?_
      obtain ⟨r15, qr15, h⟩ := ob h
      refine k_X12_byteAt F qr15 q_1654 ⟨Nat.le_of_ble_eq_true rfl, Nat.le_of_ble_eq_true rfl, Nat.le_of_ble_eq_true rfl, Nat.le_of_ble_eq_true rfl⟩ hW hS hl.1 (Nat.le_of_ble_eq_true rfl) dX12_scan_180 (fun H locs hW hS => ?_)
      refine lv_iadd hx hb dX12_scan_183 ?_
      refine lv_bipush (v := (48 : Int32)) hx hb dX12_scan_184 (by decide) ?_
      refine lv_isub hx hb dX12_scan_186 ?_
      refine fl_min F hl.1 q_1663 q_465 q_3 mm_min (Nat.le_of_ble_eq_true rfl) (Nat.le_of_ble_eq_true rfl) (Nat.zero_le _) (Nat.zero_le _) dX12_scan_187 ?_
      obtain ⟨μ16, hmμ16, h⟩ := ob h
      refine fl_put12_10 kyf_306 F hW hS q_1481 hmμ16 dX12_scan_190 (fun H locs hW hS => ?_)
      refine lv_aload_n hx hb dX12_scan_193 rfl (lv_at hl 0 rfl) ?_
      refine lv_dup hx hb dX12_scan_194 rfl ?_
      refine fl_get12 (v := .int (μ16.1 306 7)) kyf_306 F hW 7 (by decide) q_1478 rfl rfl dX12_scan_195 ?_
      refine lv_iconst (v := (1 : Int32)) hx hb dX12_scan_198 (by decide) ?_
      refine lv_iadd hx hb dX12_scan_199 ?_
      obtain ⟨μ17, hmμ17, h⟩ := ob h
      refine fl_put12_7 kyf_306 F hW hS q_1478 hmμ17 dX12_scan_200 (fun H locs hW hS => ?_)
      refine lv_goto (tgt := 144) hx hb dX12_scan_203 (by decide) ?_
      exact hk144 _ _ _ _ h hW hS (lv_sub hl [0] rfl)
set_option maxHeartbeats 4000000 in
set_option maxRecDepth 100000 in
theorem wk_X12_scan_83 {n : Nat} {out : Mm} (F : FX (fg G) b RX12 cX12_scan 2 p s m args meth c) (hr : meth.sig.returnType = none) : ∀ (f : Nat) (μ : Mm) (H : Heap) (locs : List Loc) (ls : Array Slot), sh_X12_scan_83 n f μ = some out → WH (fg G) b μ H → va_S (fb b) s.heap H locs → lv_has ls 2 [(0, .ref (b + 306))] → W p l e ({ frames := 1, cells := 0, slots := 0, locals := 25 } : Room) s m args below meth c H locs 0 0 (MQ below (QW (fg G) b out none) args s 0 0 (fb b)) (F0 m 83 ls []) := by
  have hx := F.1
  have hb := F.2.1
  intro f
  induction f with
  | zero =>
    intro _ _ _ _ h
    rw [sh_X12_scan_83] at h
    cases h
  | succ f ih =>
    intro μ H locs ls h hW hS hl
    rw [sh_X12_scan_83] at h
    have hk83 := ih
    refine lv_aload_n hx hb dX12_scan_83 rfl (lv_at hl 0 rfl) ?_
    refine lv_aload_n hx hb dX12_scan_84 rfl (lv_at hl 0 rfl) ?_
    refine fl_get12 (v := .int (μ.1 306 7)) kyf_306 F hW 7 (by decide) q_1478 rfl rfl dX12_scan_85 ?_
    obtain ⟨r18, qr18, h⟩ := ob h
    refine k_X12_byteAt F qr18 q_1654 ⟨Nat.le_of_ble_eq_true rfl, Nat.le_of_ble_eq_true rfl, Nat.le_of_ble_eq_true rfl, Nat.le_of_ble_eq_true rfl⟩ hW hS hl.1 (Nat.le_of_ble_eq_true rfl) dX12_scan_88 (fun H locs hW hS => ?_)
    refine lv_i2l hx hb dX12_scan_91 rfl ?_
    refine lv_ldc2 hx hb F.2.2.2.1 (F.2.2.2.2.1 _ q_1658) dX12_scan_92 ?_
    refine lv_ldc2 hx hb F.2.2.2.1 (F.2.2.2.2.1 _ q_1659) dX12_scan_95 ?_
    obtain ⟨r19, qr19, h⟩ := ob h
    refine k_X12_in F qr19 q_1643 ⟨Nat.le_of_ble_eq_true rfl, Nat.le_of_ble_eq_true rfl, Nat.le_of_ble_eq_true rfl, Nat.le_of_ble_eq_true rfl⟩ hW hS hl.1 (Nat.le_of_ble_eq_true rfl) dX12_scan_98 (fun H locs hW hS => ?_)
    refine lv_if_eq (tgt := 117) hx hb dX12_scan_101 (by decide) (fun cc => ?_) (fun cc => ?_)
    · replace h := (if_pos cc).symm.trans h
      refine lv_aload_n hx hb dX12_scan_117 rfl (lv_at hl 0 rfl) ?_
      refine lv_iconst (v := (1 : Int32)) hx hb dX12_scan_118 (by decide) ?_
      obtain ⟨μ20, hmμ20, h⟩ := ob h
      refine fl_put12_9 kyf_306 F hW hS q_1480 hmμ20 dX12_scan_119 (fun H locs hW hS => ?_)
      refine lv_goto (tgt := 234) hx hb dX12_scan_122 (by decide) ?_
      cases h
      exact r_void F hr hW hS dX12_scan_234
    · replace h := (if_neg cc).symm.trans h
      refine lv_aload_n hx hb dX12_scan_104 rfl (lv_at hl 0 rfl) ?_
      refine lv_dup hx hb dX12_scan_105 rfl ?_
      refine fl_get12 (v := .int (μ.1 306 7)) kyf_306 F hW 7 (by decide) q_1478 rfl rfl dX12_scan_106 ?_
      refine lv_iconst (v := (1 : Int32)) hx hb dX12_scan_109 (by decide) ?_
      refine lv_iadd hx hb dX12_scan_110 ?_
      obtain ⟨μ21, hmμ21, h⟩ := ob h
      refine fl_put12_7 kyf_306 F hW hS q_1478 hmμ21 dX12_scan_111 (fun H locs hW hS => ?_)
      refine lv_goto (tgt := 83) hx hb dX12_scan_114 (by decide) ?_
      exact hk83 _ _ _ _ h hW hS (lv_sub hl [0] rfl)
set_option maxHeartbeats 4000000 in
set_option maxRecDepth 100000 in
theorem wk_X12_scan_0 {n : Nat} {out : Mm} (F : FX (fg G) b RX12 cX12_scan 2 p s m args meth c) (hr : meth.sig.returnType = none) : ∀ (f : Nat) (μ : Mm) (H : Heap) (locs : List Loc) (ls : Array Slot), sh_X12_scan_0 n f μ = some out → WH (fg G) b μ H → va_S (fb b) s.heap H locs → lv_has ls 2 [(0, .ref (b + 306))] → W p l e ({ frames := 1, cells := 0, slots := 0, locals := 25 } : Room) s m args below meth c H locs 0 0 (MQ below (QW (fg G) b out none) args s 0 0 (fb b)) (F0 m 0 ls []) := by
  have hx := F.1
  have hb := F.2.1
  intro f
  induction f with
  | zero =>
    intro _ _ _ _ h
    rw [sh_X12_scan_0] at h
    cases h
  | succ f ih =>
    intro μ H locs ls h hW hS hl
    rw [sh_X12_scan_0] at h
    have hk0 := ih
    refine lv_aload_n hx hb dX12_scan_0 rfl (lv_at hl 0 rfl) ?_
    refine lv_aload_n hx hb dX12_scan_1 rfl (lv_at hl 0 rfl) ?_
    refine fl_get12 (v := .int (μ.1 306 7)) kyf_306 F hW 7 (by decide) q_1478 rfl rfl dX12_scan_2 ?_
    obtain ⟨r1, qr1, h⟩ := ob h
    refine k_X12_byteAt F qr1 q_1654 ⟨Nat.le_of_ble_eq_true rfl, Nat.le_of_ble_eq_true rfl, Nat.le_of_ble_eq_true rfl, Nat.le_of_ble_eq_true rfl⟩ hW hS hl.1 (Nat.le_of_ble_eq_true rfl) dX12_scan_5 (fun H locs hW hS => ?_)
    refine lv_bipush (v := (32 : Int32)) hx hb dX12_scan_8 (by decide) ?_
    refine lv_icmp_eq (tgt := 26) hx hb dX12_scan_10 (by decide) (fun cc => ?_) (fun cc => ?_)
    · replace h := (if_pos cc).symm.trans h
      refine lv_aload_n hx hb dX12_scan_26 rfl (lv_at hl 0 rfl) ?_
      refine lv_dup hx hb dX12_scan_27 rfl ?_
      refine fl_get12 (v := .int (μ.1 306 7)) kyf_306 F hW 7 (by decide) q_1478 rfl rfl dX12_scan_28 ?_
      refine lv_iconst (v := (1 : Int32)) hx hb dX12_scan_31 (by decide) ?_
      refine lv_iadd hx hb dX12_scan_32 ?_
      obtain ⟨μ2, hmμ2, h⟩ := ob h
      refine fl_put12_7 kyf_306 F hW hS q_1478 hmμ2 dX12_scan_33 (fun H locs hW hS => ?_)
      refine lv_goto (tgt := 0) hx hb dX12_scan_36 (by decide) ?_
      exact hk0 _ _ _ _ h hW hS (lv_sub hl [0] rfl)
    · replace h := (if_neg cc).symm.trans h
      refine lv_aload_n hx hb dX12_scan_13 rfl (lv_at hl 0 rfl) ?_
      refine lv_aload_n hx hb dX12_scan_14 rfl (lv_at hl 0 rfl) ?_
      refine fl_get12 (v := .int (μ.1 306 7)) kyf_306 F hW 7 (by decide) q_1478 rfl rfl dX12_scan_15 ?_
      obtain ⟨r3, qr3, h⟩ := ob h
      refine k_X12_byteAt F qr3 q_1654 ⟨Nat.le_of_ble_eq_true rfl, Nat.le_of_ble_eq_true rfl, Nat.le_of_ble_eq_true rfl, Nat.le_of_ble_eq_true rfl⟩ hW hS hl.1 (Nat.le_of_ble_eq_true rfl) dX12_scan_18 (fun H locs hW hS => ?_)
      refine lv_bipush (v := (10 : Int32)) hx hb dX12_scan_21 (by decide) ?_
      refine lv_icmp_ne (tgt := 39) hx hb dX12_scan_23 (by decide) (fun cc => ?_) (fun cc => ?_)
      · replace h := (if_neg cc).symm.trans h
        refine lv_aload_n hx hb dX12_scan_39 rfl (lv_at hl 0 rfl) ?_
        refine lv_aload_n hx hb dX12_scan_40 rfl (lv_at hl 0 rfl) ?_
        refine fl_get12 (v := .int (μ.1 306 7)) kyf_306 F hW 7 (by decide) q_1478 rfl rfl dX12_scan_41 ?_
        obtain ⟨μ4, hmμ4, h⟩ := ob h
        refine fl_put12_8 kyf_306 F hW hS q_1479 hmμ4 dX12_scan_44 (fun H locs hW hS => ?_)
        refine lv_aload_n hx hb dX12_scan_47 rfl (lv_at hl 0 rfl) ?_
        refine lv_aload_n hx hb dX12_scan_48 rfl (lv_at hl 0 rfl) ?_
        refine fl_get12 (v := .int (μ4.1 306 7)) kyf_306 F hW 7 (by decide) q_1478 rfl rfl dX12_scan_49 ?_
        obtain ⟨r5, qr5, h⟩ := ob h
        refine k_X12_byteAt F qr5 q_1654 ⟨Nat.le_of_ble_eq_true rfl, Nat.le_of_ble_eq_true rfl, Nat.le_of_ble_eq_true rfl, Nat.le_of_ble_eq_true rfl⟩ hW hS hl.1 (Nat.le_of_ble_eq_true rfl) dX12_scan_52 (fun H locs hW hS => ?_)
        refine lv_istore_n (lv' := [(1, .int r5), (0, .ref (b + 306))]) hx hb dX12_scan_55 rfl hl (by decide) rfl (fun ls hl => ?_)
        refine lv_iload_n hx hb dX12_scan_56 rfl (lv_at hl 0 rfl) ?_
        refine lv_iconst (v := (-1 : Int32)) hx hb dX12_scan_57 (by decide) ?_
        refine lv_icmp_ne (tgt := 69) hx hb dX12_scan_58 (by decide) (fun cc => ?_) (fun cc => ?_)
        · replace h := (if_neg cc).symm.trans h
          refine lv_iload_n hx hb dX12_scan_69 rfl (lv_at hl 0 rfl) ?_
          refine lv_i2l hx hb dX12_scan_70 rfl ?_
          refine lv_ldc2 hx hb F.2.2.2.1 (F.2.2.2.2.1 _ q_1658) dX12_scan_71 ?_
          refine lv_ldc2 hx hb F.2.2.2.1 (F.2.2.2.2.1 _ q_1659) dX12_scan_74 ?_
          obtain ⟨r6, qr6, h⟩ := ob h
          refine k_X12_in F qr6 q_1643 ⟨Nat.le_of_ble_eq_true rfl, Nat.le_of_ble_eq_true rfl, Nat.le_of_ble_eq_true rfl, Nat.le_of_ble_eq_true rfl⟩ hW hS hl.1 (Nat.le_of_ble_eq_true rfl) dX12_scan_77 (fun H locs hW hS => ?_)
          refine lv_if_eq (tgt := 125) hx hb dX12_scan_80 (by decide) (fun cc => ?_) (fun cc => ?_)
          · replace h := (if_pos cc).symm.trans h
            refine lv_iload_n hx hb dX12_scan_125 rfl (lv_at hl 0 rfl) ?_
            refine lv_i2l hx hb dX12_scan_126 rfl ?_
            refine lv_ldc2 hx hb F.2.2.2.1 (F.2.2.2.2.1 _ q_1660) dX12_scan_127 ?_
            refine lv_ldc2 hx hb F.2.2.2.1 (F.2.2.2.2.1 _ q_1661) dX12_scan_130 ?_
            obtain ⟨r7, qr7, h⟩ := ob h
            refine k_X12_in F qr7 q_1643 ⟨Nat.le_of_ble_eq_true rfl, Nat.le_of_ble_eq_true rfl, Nat.le_of_ble_eq_true rfl, Nat.le_of_ble_eq_true rfl⟩ hW hS hl.1 (Nat.le_of_ble_eq_true rfl) dX12_scan_133 (fun H locs hW hS => ?_)
            refine lv_if_eq (tgt := 214) hx hb dX12_scan_136 (by decide) (fun cc => ?_) (fun cc => ?_)
            · replace h := (if_pos cc).symm.trans h
              refine lv_aload_n hx hb dX12_scan_214 rfl (lv_at hl 1 rfl) ?_
              refine lv_iconst (v := (3 : Int32)) hx hb dX12_scan_215 (by decide) ?_
              obtain ⟨μ8, hmμ8, h⟩ := ob h
              refine fl_put12_9 kyf_306 F hW hS q_1480 hmμ8 dX12_scan_216 (fun H locs hW hS => ?_)
              refine lv_aload_n hx hb dX12_scan_219 rfl (lv_at hl 1 rfl) ?_
              refine lv_iload_n hx hb dX12_scan_220 rfl (lv_at hl 0 rfl) ?_
              obtain ⟨μ9, hmμ9, h⟩ := ob h
              refine fl_put12_10 kyf_306 F hW hS q_1481 hmμ9 dX12_scan_221 (fun H locs hW hS => ?_)
              refine lv_aload_n hx hb dX12_scan_224 rfl (lv_at hl 1 rfl) ?_
              refine lv_dup hx hb dX12_scan_225 rfl ?_
              refine fl_get12 (v := .int (μ9.1 306 7)) kyf_306 F hW 7 (by decide) q_1478 rfl rfl dX12_scan_226 ?_
              refine lv_iconst (v := (1 : Int32)) hx hb dX12_scan_229 (by decide) ?_
              refine lv_iadd hx hb dX12_scan_230 ?_
              obtain ⟨μ10, hmμ10, h⟩ := ob h
              refine fl_put12_7 kyf_306 F hW hS q_1478 hmμ10 dX12_scan_231 (fun H locs hW hS => ?_)
              cases h
              exact r_void F hr hW hS dX12_scan_234
            · replace h := (if_neg cc).symm.trans h
              refine lv_aload_n hx hb dX12_scan_139 rfl (lv_at hl 1 rfl) ?_
              refine lv_iconst (v := (0 : Int32)) hx hb dX12_scan_140 (by decide) ?_
              obtain ⟨μ11, hmμ11, h⟩ := ob h
              refine fl_put12_10 kyf_306 F hW hS q_1481 hmμ11 dX12_scan_141 (fun H locs hW hS => ?_)
              exact wk_X12_scan_144 F hr n _ _ _ _ h hW hS (lv_sub hl [1] rfl)
          · replace h := (if_neg cc).symm.trans h
            exact wk_X12_scan_83 F hr n _ _ _ _ h hW hS (lv_sub hl [1] rfl)
        · replace h := (if_pos cc).symm.trans h
          refine lv_aload_n hx hb dX12_scan_61 rfl (lv_at hl 1 rfl) ?_
          refine lv_iconst (v := (0 : Int32)) hx hb dX12_scan_62 (by decide) ?_
          obtain ⟨μ22, hmμ22, h⟩ := ob h
          refine fl_put12_9 kyf_306 F hW hS q_1480 hmμ22 dX12_scan_63 (fun H locs hW hS => ?_)
          refine lv_goto (tgt := 234) hx hb dX12_scan_66 (by decide) ?_
          cases h
          exact r_void F hr hW hS dX12_scan_234
      · replace h := (if_pos cc).symm.trans h
        refine lv_aload_n hx hb dX12_scan_26 rfl (lv_at hl 0 rfl) ?_
        refine lv_dup hx hb dX12_scan_27 rfl ?_
        refine fl_get12 (v := .int (μ.1 306 7)) kyf_306 F hW 7 (by decide) q_1478 rfl rfl dX12_scan_28 ?_
        refine lv_iconst (v := (1 : Int32)) hx hb dX12_scan_31 (by decide) ?_
        refine lv_iadd hx hb dX12_scan_32 ?_
        obtain ⟨μ23, hmμ23, h⟩ := ob h
        refine fl_put12_7 kyf_306 F hW hS q_1478 hmμ23 dX12_scan_33 (fun H locs hW hS => ?_)
        refine lv_goto (tgt := 0) hx hb dX12_scan_36 (by decide) ?_
        exact hk0 _ _ _ _ h hW hS (lv_sub hl [0] rfl)
set_option maxHeartbeats 4000000 in
set_option maxRecDepth 100000 in
theorem wk_X12_scan {n : Nat} {μ : Mm} {out : Mm} (F : FX (fg G) b RX12 cX12_scan 2 p s m args meth c) (hr : meth.sig.returnType = none) (h : sh_X12_scan n  μ = some out) (hW : WH (fg G) b μ H) (hS : va_S (fb b) s.heap H locs) (hl : lv_has ls 2 [(0, .ref (b + 306))]) : W p l e ({ frames := 1, cells := 0, slots := 0, locals := 25 } : Room) s m args below meth c H locs 0 0 (MQ below (QW (fg G) b out none) args s 0 0 (fb b)) (F0 m 0 ls []) := by
  have hx := F.1
  have hb := F.2.1
  unfold sh_X12_scan at h
  exact wk_X12_scan_0 F hr n _ _ _ _ h hW hS (lv_sub hl [0] rfl)
set_option maxHeartbeats 4000000 in
set_option maxRecDepth 100000 in
theorem c_X12_scan {l : Launch} {G : Gt} {b : Nat} {n : Nat} {μ : Mm} {out : Mm} (h : sh_X12_scan n  μ = some out) : Met l yX12_scan (wU (Cond.code yX12_scan cX12_scan 2 none)) ({ frames := 1, cells := 0, slots := 0, locals := 25 } : Room) (PcW (fg G) b μ [.ref (b + 306)]) (QW (fg G) b out none) 0 0 (fb b) :=
  met_of [.ref (b + 306)] (by decide) (Nat.le_of_ble_eq_true rfl) (fun F hr hW hl => wk_X12_scan F hr h hW va_S.rf hl)
set_option maxHeartbeats 4000000 in
set_option maxRecDepth 100000 in
theorem k_X12_scan {own : String} {nL : Nat} (F : FX (fg G) b own cc nL p s m args meth c) {n : Nat} {μ : Mm} {out : Mm} (h : sh_X12_scan n  μ = some out) {index : Nat} (hl : Cond.methodLink own index yX12_scan ∈ TBG) (hR : 1 + 1 ≤ R.frames ∧ 8 + (2 + 11) + 25 ≤ R.locals ∧ cells ≤ R.cells ∧ slots ≤ R.slots) (hW : WH (fg G) b μ H) (hS : va_S (fb b) s.heap H locs) (hsz : ls.size = nL) (hrest : (rest.map fun v => v.category).sum ≤ 8) (hdg : decode cc pc = .ok (.invokevirtual index, 3))
    (kk : ∀ (H1 : Heap) (locs1 : List Loc), WH (fg G) b out H1 → va_S (fb b) s.heap H1 locs1 → W p l e R s m args below meth c H1 locs1 cells slots Q (F0 m (pc + 3) ls (rest))) : W p l e R s m args below meth c H locs cells slots Q (F0 m pc ls (.ref (b + 306) :: rest)) :=
  f_callV (As := []) (ci := 12) (c_X12_scan h) ⟨rfl, rfl⟩ rfl (ky_lm kyf_306 (by decide)) (wF_12 kyf_306) q_1652 qp_45 q_14 q_1653 rfl ⟨by decide +kernel, by decide +kernel, (show (parseMethodDescriptor yX12_scan.desc).map (fun d => d.parameters.length) = some 0 by decide +kernel)⟩ F hl hR hW hS hsz hrest rfl hdg kk
set_option maxHeartbeats 4000000 in
set_option maxRecDepth 100000 in
theorem wk_X12_goOn {n : Nat} {μ : Mm} {out : Mm} (F : FX (fg G) b RX12 cX12_goOn 1 p s m args meth c) (hr : meth.sig.returnType = none) (h : sh_X12_goOn n  μ = some out) (hW : WH (fg G) b μ H) (hS : va_S (fb b) s.heap H locs) (hl : lv_has ls 1 [(0, .ref (b + 306))]) : W p l e ({ frames := 2, cells := 0, slots := 0, locals := 46 } : Room) s m args below meth c H locs 0 0 (MQ below (QW (fg G) b out none) args s 0 0 (fb b)) (F0 m 0 ls []) := by
  have hx := F.1
  have hb := F.2.1
  unfold sh_X12_goOn at h
  refine lv_aload_n hx hb dX12_goOn_0 rfl (lv_at hl 0 rfl) ?_
  obtain ⟨r1, qr1, h⟩ := ob h
  refine k_X12_good F qr1 q_1673 ⟨Nat.le_of_ble_eq_true rfl, Nat.le_of_ble_eq_true rfl, Nat.le_of_ble_eq_true rfl, Nat.le_of_ble_eq_true rfl⟩ hW hS hl.1 (Nat.le_of_ble_eq_true rfl) dX12_goOn_1 (fun H locs hW hS => ?_)
  refine lv_if_eq (tgt := 11) hx hb dX12_goOn_4 (by decide) (fun cc => ?_) (fun cc => ?_)
  · replace h := (if_pos cc).symm.trans h
    cases h
    exact r_void F hr hW hS dX12_goOn_11
  · replace h := (if_neg cc).symm.trans h
    refine lv_aload_n hx hb dX12_goOn_7 rfl (lv_at hl 0 rfl) ?_
    obtain ⟨r2, qr2, h⟩ := ob h
    refine k_X12_scan F qr2 q_1650 ⟨Nat.le_of_ble_eq_true rfl, Nat.le_of_ble_eq_true rfl, Nat.le_of_ble_eq_true rfl, Nat.le_of_ble_eq_true rfl⟩ hW hS hl.1 (Nat.le_of_ble_eq_true rfl) dX12_goOn_8 (fun H locs hW hS => ?_)
    cases h
    exact r_void F hr hW hS dX12_goOn_11
set_option maxHeartbeats 4000000 in
set_option maxRecDepth 100000 in
theorem c_X12_goOn {l : Launch} {G : Gt} {b : Nat} {n : Nat} {μ : Mm} {out : Mm} (h : sh_X12_goOn n  μ = some out) : Met l yX12_goOn (wU (Cond.code yX12_goOn cX12_goOn 1 none)) ({ frames := 2, cells := 0, slots := 0, locals := 46 } : Room) (PcW (fg G) b μ [.ref (b + 306)]) (QW (fg G) b out none) 0 0 (fb b) :=
  met_of [.ref (b + 306)] (by decide) (Nat.le_of_ble_eq_true rfl) (fun F hr hW hl => wk_X12_goOn F hr h hW va_S.rf hl)
set_option maxHeartbeats 4000000 in
set_option maxRecDepth 100000 in
theorem k_X12_goOn {own : String} {nL : Nat} (F : FX (fg G) b own cc nL p s m args meth c) {n : Nat} {μ : Mm} {out : Mm} (h : sh_X12_goOn n  μ = some out) {index : Nat} (hl : Cond.methodLink own index yX12_goOn ∈ TBG) (hR : 2 + 1 ≤ R.frames ∧ 8 + (1 + 11) + 46 ≤ R.locals ∧ cells ≤ R.cells ∧ slots ≤ R.slots) (hW : WH (fg G) b μ H) (hS : va_S (fb b) s.heap H locs) (hsz : ls.size = nL) (hrest : (rest.map fun v => v.category).sum ≤ 8) (hdg : decode cc pc = .ok (.invokevirtual index, 3))
    (kk : ∀ (H1 : Heap) (locs1 : List Loc), WH (fg G) b out H1 → va_S (fb b) s.heap H1 locs1 → W p l e R s m args below meth c H1 locs1 cells slots Q (F0 m (pc + 3) ls (rest))) : W p l e R s m args below meth c H locs cells slots Q (F0 m pc ls (.ref (b + 306) :: rest)) :=
  f_callV (As := []) (ci := 12) (c_X12_goOn h) ⟨rfl, rfl⟩ rfl (ky_lm kyf_306 (by decide)) (wF_12 kyf_306) q_1685 qp_51 q_14 q_1686 rfl ⟨by decide +kernel, by decide +kernel, (show (parseMethodDescriptor yX12_goOn.desc).map (fun d => d.parameters.length) = some 0 by decide +kernel)⟩ F hl hR hW hS hsz hrest rfl hdg kk
set_option maxHeartbeats 4000000 in
set_option maxRecDepth 100000 in
theorem wk_X12_isText_39 {n : Nat} {a1 : Nat} {μ : Mm} {out : Int32} (F : FX (fg G) b RX12 cX12_isText 4 p s m args meth c) (hr : meth.sig.returnType = some .boolean) (ha1 : a1 < 13) : ∀ (f : Nat) (x2 : Int32) (x3 : Int32) (H : Heap) (locs : List Loc) (ls : Array Slot), sh_X12_isText_39 n a1 μ f x2 x3 = some out → WH (fg G) b μ H → va_S (fb b) s.heap H locs → lv_has ls 4 [(0, .ref (b + 306)), (1, .ref ((fg G).2.2.1 a1)), (2, .int x2), (3, .int x3)] → W p l e ({ frames := 4, cells := 0, slots := 0, locals := 86 } : Room) s m args below meth c H locs 0 0 (MQ below (QW (fg G) b μ (some (.int out))) args s 0 0 (fb b)) (F0 m 39 ls []) := by
  have hx := F.1
  have hb := F.2.1
  intro f
  induction f with
  | zero =>
    intro _ _ _ _ _ h
    rw [sh_X12_isText_39] at h
    cases h
  | succ f ih =>
    intro x2 x3  H locs ls h hW hS hl
    rw [sh_X12_isText_39] at h
    have hk39 := ih
    refine lv_iload_n hx hb dX12_isText_39 rfl (lv_at hl 3 rfl) ?_
    refine lv_aload_n hx hb dX12_isText_40 rfl (lv_at hl 1 rfl) ?_
    refine k_J0_length F ha1 q_1677 ⟨Nat.le_of_ble_eq_true rfl, Nat.le_of_ble_eq_true rfl, Nat.le_of_ble_eq_true rfl, Nat.le_of_ble_eq_true rfl⟩ hW hS hl.1 (Nat.le_of_ble_eq_true rfl) dX12_isText_41 (fun H locs hW hS => ?_)
    refine lv_icmp_ge (tgt := 82) hx hb dX12_isText_44 (by decide) (fun cc => ?_) (fun cc => ?_)
    · replace h := (if_pos cc).symm.trans h
      refine lv_iload_n hx hb dX12_isText_82 rfl (lv_at hl 2 rfl) ?_
      obtain ⟨v3, qv3, h⟩ := ob h
      obtain ⟨zv3, qv3⟩ := isB_some qv3
      rw [qv3] at zv3
      rw [qv3]
      cases h
      exact r_bool F hr zv3 hW hS dX12_isText_83
    · replace h := (if_neg cc).symm.trans h
      refine lv_iload_n hx hb dX12_isText_47 rfl (lv_at hl 2 rfl) ?_
      refine lv_if_eq (tgt := 82) hx hb dX12_isText_48 (by decide) (fun cc => ?_) (fun cc => ?_)
      · replace h := (if_pos cc).symm.trans h
        refine lv_iload_n hx hb dX12_isText_82 rfl (lv_at hl 2 rfl) ?_
        obtain ⟨v4, qv4, h⟩ := ob h
        obtain ⟨zv4, qv4⟩ := isB_some qv4
        rw [qv4] at zv4
        rw [qv4]
        cases h
        exact r_bool F hr zv4 hW hS dX12_isText_83
      · replace h := (if_neg cc).symm.trans h
        refine lv_aload_n hx hb dX12_isText_51 rfl (lv_at hl 0 rfl) ?_
        refine fl_get12 (v := .ref (b + 309)) kyf_306 F hW 4 (by decide) q_1475 rfl rfl dX12_isText_52 ?_
        refine lv_aload_n hx hb dX12_isText_55 rfl (lv_at hl 0 rfl) ?_
        refine fl_get12 (v := .int (μ.1 306 8)) kyf_306 F hW 8 (by decide) q_1479 rfl rfl dX12_isText_56 ?_
        refine lv_iload_n hx hb dX12_isText_59 rfl (lv_at hl 3 rfl) ?_
        refine lv_iadd hx hb dX12_isText_60 ?_
        obtain ⟨v5, qv5, h⟩ := ob h
        refine fm_bald kyf_309 F hW qv5 dX12_isText_61 ?_
        refine lv_aload_n hx hb dX12_isText_62 rfl (lv_at hl 1 rfl) ?_
        refine lv_iload_n hx hb dX12_isText_63 rfl (lv_at hl 3 rfl) ?_
        obtain ⟨v6, qv6, h⟩ := ob h
        refine k_J0_charAt F ha1 qv6 q_1678 ⟨Nat.le_of_ble_eq_true rfl, Nat.le_of_ble_eq_true rfl, Nat.le_of_ble_eq_true rfl, Nat.le_of_ble_eq_true rfl⟩ hW hS hl.1 (Nat.le_of_ble_eq_true rfl) dX12_isText_64 (fun H locs hW hS => ?_)
        refine lv_icmp_ne (tgt := 74) hx hb dX12_isText_67 (by decide) (fun cc => ?_) (fun cc => ?_)
        · replace h := (if_neg cc).symm.trans h
          refine lv_iconst (v := (0 : Int32)) hx hb dX12_isText_74 (by decide) ?_
          refine lv_istore_n (lv' := [(2, .int (0 : Int32)), (0, .ref (b + 306)), (1, .ref ((fg G).2.2.1 a1)), (3, .int x3)]) hx hb dX12_isText_75 rfl hl (by decide) rfl (fun ls hl => ?_)
          refine lv_iinc (v := (x3 + (1 : Int32))) (lv' := [(3, .int (x3 + (1 : Int32))), (2, .int (0 : Int32)), (0, .ref (b + 306)), (1, .ref ((fg G).2.2.1 a1))]) hx hb dX12_isText_76 hl (k := 3) rfl rfl (by decide) rfl (fun ls hl => ?_)
          refine lv_goto (tgt := 39) hx hb dX12_isText_79 (by decide) ?_
          exact hk39 _ _ _ _ _ h hW hS (lv_sub hl [2, 3, 1, 0] rfl)
        · replace h := (if_pos cc).symm.trans h
          refine lv_iconst (v := (1 : Int32)) hx hb dX12_isText_70 (by decide) ?_
          refine lv_goto (tgt := 75) hx hb dX12_isText_71 (by decide) ?_
          refine lv_istore_n (lv' := [(2, .int (1 : Int32)), (0, .ref (b + 306)), (1, .ref ((fg G).2.2.1 a1)), (3, .int x3)]) hx hb dX12_isText_75 rfl hl (by decide) rfl (fun ls hl => ?_)
          refine lv_iinc (v := (x3 + (1 : Int32))) (lv' := [(3, .int (x3 + (1 : Int32))), (2, .int (1 : Int32)), (0, .ref (b + 306)), (1, .ref ((fg G).2.2.1 a1))]) hx hb dX12_isText_76 hl (k := 3) rfl rfl (by decide) rfl (fun ls hl => ?_)
          refine lv_goto (tgt := 39) hx hb dX12_isText_79 (by decide) ?_
          exact hk39 _ _ _ _ _ h hW hS (lv_sub hl [2, 3, 1, 0] rfl)
set_option maxHeartbeats 4000000 in
set_option maxRecDepth 100000 in
theorem wk_X12_isText {n : Nat} {a1 : Nat} {μ : Mm} {out : Int32} (F : FX (fg G) b RX12 cX12_isText 4 p s m args meth c) (hr : meth.sig.returnType = some .boolean) (ha1 : a1 < 13) (h : sh_X12_isText n a1 μ = some out) (hW : WH (fg G) b μ H) (hS : va_S (fb b) s.heap H locs) (hl : lv_has ls 4 [(0, .ref (b + 306)), (1, .ref ((fg G).2.2.1 a1))]) : W p l e ({ frames := 4, cells := 0, slots := 0, locals := 86 } : Room) s m args below meth c H locs 0 0 (MQ below (QW (fg G) b μ (some (.int out))) args s 0 0 (fb b)) (F0 m 0 ls []) := by
  have hx := F.1
  have hb := F.2.1
  unfold sh_X12_isText at h
  refine lv_aload_n hx hb dX12_isText_0 rfl (lv_at hl 0 rfl) ?_
  obtain ⟨r1, qr1, h⟩ := ob h
  refine k_X12_good F qr1 q_1673 ⟨Nat.le_of_ble_eq_true rfl, Nat.le_of_ble_eq_true rfl, Nat.le_of_ble_eq_true rfl, Nat.le_of_ble_eq_true rfl⟩ hW hS hl.1 (Nat.le_of_ble_eq_true rfl) dX12_isText_1 (fun H locs hW hS => ?_)
  refine lv_if_eq (tgt := 35) hx hb dX12_isText_4 (by decide) (fun cc => ?_) (fun cc => ?_)
  · replace h := (if_pos cc).symm.trans h
    refine lv_iconst (v := (0 : Int32)) hx hb dX12_isText_35 (by decide) ?_
    refine lv_istore_n (lv' := [(2, .int (0 : Int32)), (0, .ref (b + 306)), (1, .ref ((fg G).2.2.1 a1))]) hx hb dX12_isText_36 rfl hl (by decide) rfl (fun ls hl => ?_)
    refine lv_iconst (v := (0 : Int32)) hx hb dX12_isText_37 (by decide) ?_
    refine lv_istore_n (lv' := [(3, .int (0 : Int32)), (2, .int (0 : Int32)), (0, .ref (b + 306)), (1, .ref ((fg G).2.2.1 a1))]) hx hb dX12_isText_38 rfl hl (by decide) rfl (fun ls hl => ?_)
    exact wk_X12_isText_39 F hr ha1 n _ _ _ _ _ h hW hS (lv_sub hl [2, 3, 1, 0] rfl)
  · replace h := (if_neg cc).symm.trans h
    refine lv_aload_n hx hb dX12_isText_7 rfl (lv_at hl 0 rfl) ?_
    refine fl_get12 (v := .int (μ.1 306 9)) kyf_306 F hW 9 (by decide) q_1480 rfl rfl dX12_isText_8 ?_
    refine lv_iconst (v := (1 : Int32)) hx hb dX12_isText_11 (by decide) ?_
    refine lv_icmp_ne (tgt := 35) hx hb dX12_isText_12 (by decide) (fun cc => ?_) (fun cc => ?_)
    · replace h := (if_neg cc).symm.trans h
      refine lv_iconst (v := (0 : Int32)) hx hb dX12_isText_35 (by decide) ?_
      refine lv_istore_n (lv' := [(2, .int (0 : Int32)), (0, .ref (b + 306)), (1, .ref ((fg G).2.2.1 a1))]) hx hb dX12_isText_36 rfl hl (by decide) rfl (fun ls hl => ?_)
      refine lv_iconst (v := (0 : Int32)) hx hb dX12_isText_37 (by decide) ?_
      refine lv_istore_n (lv' := [(3, .int (0 : Int32)), (2, .int (0 : Int32)), (0, .ref (b + 306)), (1, .ref ((fg G).2.2.1 a1))]) hx hb dX12_isText_38 rfl hl (by decide) rfl (fun ls hl => ?_)
      exact wk_X12_isText_39 F hr ha1 n _ _ _ _ _ h hW hS (lv_sub hl [2, 3, 1, 0] rfl)
    · replace h := (if_pos cc).symm.trans h
      refine lv_aload_n hx hb dX12_isText_15 rfl (lv_at hl 0 rfl) ?_
      refine fl_get12 (v := .int (μ.1 306 7)) kyf_306 F hW 7 (by decide) q_1478 rfl rfl dX12_isText_16 ?_
      refine lv_aload_n hx hb dX12_isText_19 rfl (lv_at hl 0 rfl) ?_
      refine fl_get12 (v := .int (μ.1 306 8)) kyf_306 F hW 8 (by decide) q_1479 rfl rfl dX12_isText_20 ?_
      refine lv_isub hx hb dX12_isText_23 ?_
      refine lv_aload_n hx hb dX12_isText_24 rfl (lv_at hl 1 rfl) ?_
      refine k_J0_length F ha1 q_1677 ⟨Nat.le_of_ble_eq_true rfl, Nat.le_of_ble_eq_true rfl, Nat.le_of_ble_eq_true rfl, Nat.le_of_ble_eq_true rfl⟩ hW hS hl.1 (Nat.le_of_ble_eq_true rfl) dX12_isText_25 (fun H locs hW hS => ?_)
      refine lv_icmp_ne (tgt := 35) hx hb dX12_isText_28 (by decide) (fun cc => ?_) (fun cc => ?_)
      · replace h := (if_neg cc).symm.trans h
        refine lv_iconst (v := (0 : Int32)) hx hb dX12_isText_35 (by decide) ?_
        refine lv_istore_n (lv' := [(2, .int (0 : Int32)), (0, .ref (b + 306)), (1, .ref ((fg G).2.2.1 a1))]) hx hb dX12_isText_36 rfl hl (by decide) rfl (fun ls hl => ?_)
        refine lv_iconst (v := (0 : Int32)) hx hb dX12_isText_37 (by decide) ?_
        refine lv_istore_n (lv' := [(3, .int (0 : Int32)), (2, .int (0 : Int32)), (0, .ref (b + 306)), (1, .ref ((fg G).2.2.1 a1))]) hx hb dX12_isText_38 rfl hl (by decide) rfl (fun ls hl => ?_)
        exact wk_X12_isText_39 F hr ha1 n _ _ _ _ _ h hW hS (lv_sub hl [2, 3, 1, 0] rfl)
      · replace h := (if_pos cc).symm.trans h
        refine lv_iconst (v := (1 : Int32)) hx hb dX12_isText_31 (by decide) ?_
        refine lv_goto (tgt := 36) hx hb dX12_isText_32 (by decide) ?_
        refine lv_istore_n (lv' := [(2, .int (1 : Int32)), (0, .ref (b + 306)), (1, .ref ((fg G).2.2.1 a1))]) hx hb dX12_isText_36 rfl hl (by decide) rfl (fun ls hl => ?_)
        refine lv_iconst (v := (0 : Int32)) hx hb dX12_isText_37 (by decide) ?_
        refine lv_istore_n (lv' := [(3, .int (0 : Int32)), (2, .int (1 : Int32)), (0, .ref (b + 306)), (1, .ref ((fg G).2.2.1 a1))]) hx hb dX12_isText_38 rfl hl (by decide) rfl (fun ls hl => ?_)
        exact wk_X12_isText_39 F hr ha1 n _ _ _ _ _ h hW hS (lv_sub hl [2, 3, 1, 0] rfl)
set_option maxHeartbeats 4000000 in
set_option maxRecDepth 100000 in
theorem c_X12_isText {l : Launch} {G : Gt} {b : Nat} {n : Nat} {a1 : Nat} {μ : Mm} {out : Int32} (ha1 : a1 < 13) (h : sh_X12_isText n a1 μ = some out) : Met l yX12_isText (wU (Cond.code yX12_isText cX12_isText 4 (some .boolean))) ({ frames := 4, cells := 0, slots := 0, locals := 86 } : Room) (PcW (fg G) b μ [.ref (b + 306), .ref ((fg G).2.2.1 a1)]) (QW (fg G) b μ (some (.int out))) 0 0 (fb b) :=
  met_of [.ref (b + 306), .ref ((fg G).2.2.1 a1)] (by decide) (Nat.le_of_ble_eq_true rfl) (fun F hr hW hl => wk_X12_isText F hr ha1 h hW va_S.rf hl)
set_option maxHeartbeats 4000000 in
set_option maxRecDepth 100000 in
theorem k_X12_isText {own : String} {nL : Nat} (F : FX (fg G) b own cc nL p s m args meth c) {n : Nat} {a1 : Nat} {μ : Mm} {out : Int32} (ha1 : a1 < 13) (h : sh_X12_isText n a1 μ = some out) {index : Nat} (hl : Cond.methodLink own index yX12_isText ∈ TBG) (hR : 4 + 1 ≤ R.frames ∧ 8 + (4 + 11) + 86 ≤ R.locals ∧ cells ≤ R.cells ∧ slots ≤ R.slots) (hW : WH (fg G) b μ H) (hS : va_S (fb b) s.heap H locs) (hsz : ls.size = nL) (hrest : (rest.map fun v => v.category).sum ≤ 8) (hdg : decode cc pc = .ok (.invokevirtual index, 3))
    (kk : ∀ (H1 : Heap) (locs1 : List Loc), WH (fg G) b μ H1 → va_S (fb b) s.heap H1 locs1 → W p l e R s m args below meth c H1 locs1 cells slots Q (F0 m (pc + 3) ls (.int out :: rest))) : W p l e R s m args below meth c H locs cells slots Q (F0 m pc ls (.ref ((fg G).2.2.1 a1) :: .ref (b + 306) :: rest)) :=
  f_callV (As := [.ref ((fg G).2.2.1 a1)]) (ci := 12) (c_X12_isText ha1 h) ⟨rfl, rfl⟩ rfl (ky_lm kyf_306 (by decide)) (wF_12 kyf_306) q_1671 qp_48 q_14 q_1672 rfl ⟨by decide +kernel, by decide +kernel, (show (parseMethodDescriptor yX12_isText.desc).map (fun d => d.parameters.length) = some 1 by decide +kernel)⟩ F hl hR hW hS hsz hrest rfl hdg kk
set_option maxHeartbeats 4000000 in
set_option maxRecDepth 100000 in
theorem wk_X12_word {n : Nat} {a1 : Nat} {μ : Mm} {out : Mm} (F : FX (fg G) b RX12 cX12_word 2 p s m args meth c) (hr : meth.sig.returnType = none) (ha1 : a1 < 13) (h : sh_X12_word n a1 μ = some out) (hW : WH (fg G) b μ H) (hS : va_S (fb b) s.heap H locs) (hl : lv_has ls 2 [(0, .ref (b + 306)), (1, .ref ((fg G).2.2.1 a1))]) : W p l e ({ frames := 5, cells := 0, slots := 0, locals := 109 } : Room) s m args below meth c H locs 0 0 (MQ below (QW (fg G) b out none) args s 0 0 (fb b)) (F0 m 0 ls []) := by
  have hx := F.1
  have hb := F.2.1
  unfold sh_X12_word at h
  refine lv_aload_n hx hb dX12_word_0 rfl (lv_at hl 0 rfl) ?_
  refine lv_aload_n hx hb dX12_word_1 rfl (lv_at hl 1 rfl) ?_
  obtain ⟨r1, qr1, h⟩ := ob h
  refine k_X12_isText F ha1 qr1 q_1669 ⟨Nat.le_of_ble_eq_true rfl, Nat.le_of_ble_eq_true rfl, Nat.le_of_ble_eq_true rfl, Nat.le_of_ble_eq_true rfl⟩ hW hS hl.1 (Nat.le_of_ble_eq_true rfl) dX12_word_2 (fun H locs hW hS => ?_)
  refine lv_if_ne (tgt := 13) hx hb dX12_word_5 (by decide) (fun cc => ?_) (fun cc => ?_)
  · replace h := (if_neg cc).symm.trans h
    refine lv_aload_n hx hb dX12_word_13 rfl (lv_at hl 0 rfl) ?_
    obtain ⟨r2, qr2, h⟩ := ob h
    refine k_X12_goOn F qr2 q_1683 ⟨Nat.le_of_ble_eq_true rfl, Nat.le_of_ble_eq_true rfl, Nat.le_of_ble_eq_true rfl, Nat.le_of_ble_eq_true rfl⟩ hW hS hl.1 (Nat.le_of_ble_eq_true rfl) dX12_word_14 (fun H locs hW hS => ?_)
    cases h
    exact r_void F hr hW hS dX12_word_17
  · replace h := (if_pos cc).symm.trans h
    refine lv_aload_n hx hb dX12_word_8 rfl (lv_at hl 0 rfl) ?_
    refine lv_iconst (v := (1 : Int32)) hx hb dX12_word_9 (by decide) ?_
    obtain ⟨r3, qr3, h⟩ := ob h
    refine k_X12_errs F qr3 q_1679 ⟨Nat.le_of_ble_eq_true rfl, Nat.le_of_ble_eq_true rfl, Nat.le_of_ble_eq_true rfl, Nat.le_of_ble_eq_true rfl⟩ hW hS hl.1 (Nat.le_of_ble_eq_true rfl) dX12_word_10 (fun H locs hW hS => ?_)
    refine lv_aload_n hx hb dX12_word_13 rfl (lv_at hl 0 rfl) ?_
    obtain ⟨r4, qr4, h⟩ := ob h
    refine k_X12_goOn F qr4 q_1683 ⟨Nat.le_of_ble_eq_true rfl, Nat.le_of_ble_eq_true rfl, Nat.le_of_ble_eq_true rfl, Nat.le_of_ble_eq_true rfl⟩ hW hS hl.1 (Nat.le_of_ble_eq_true rfl) dX12_word_14 (fun H locs hW hS => ?_)
    cases h
    exact r_void F hr hW hS dX12_word_17
set_option maxHeartbeats 4000000 in
set_option maxRecDepth 100000 in
theorem c_X12_word {l : Launch} {G : Gt} {b : Nat} {n : Nat} {a1 : Nat} {μ : Mm} {out : Mm} (ha1 : a1 < 13) (h : sh_X12_word n a1 μ = some out) : Met l yX12_word (wU (Cond.code yX12_word cX12_word 2 none)) ({ frames := 5, cells := 0, slots := 0, locals := 109 } : Room) (PcW (fg G) b μ [.ref (b + 306), .ref ((fg G).2.2.1 a1)]) (QW (fg G) b out none) 0 0 (fb b) :=
  met_of [.ref (b + 306), .ref ((fg G).2.2.1 a1)] (by decide) (Nat.le_of_ble_eq_true rfl) (fun F hr hW hl => wk_X12_word F hr ha1 h hW va_S.rf hl)
set_option maxHeartbeats 4000000 in
set_option maxRecDepth 100000 in
theorem k_X12_word {own : String} {nL : Nat} (F : FX (fg G) b own cc nL p s m args meth c) {n : Nat} {a1 : Nat} {μ : Mm} {out : Mm} (ha1 : a1 < 13) (h : sh_X12_word n a1 μ = some out) {index : Nat} (hl : Cond.methodLink own index yX12_word ∈ TBG) (hR : 5 + 1 ≤ R.frames ∧ 8 + (2 + 11) + 109 ≤ R.locals ∧ cells ≤ R.cells ∧ slots ≤ R.slots) (hW : WH (fg G) b μ H) (hS : va_S (fb b) s.heap H locs) (hsz : ls.size = nL) (hrest : (rest.map fun v => v.category).sum ≤ 8) (hdg : decode cc pc = .ok (.invokevirtual index, 3))
    (kk : ∀ (H1 : Heap) (locs1 : List Loc), WH (fg G) b out H1 → va_S (fb b) s.heap H1 locs1 → W p l e R s m args below meth c H1 locs1 cells slots Q (F0 m (pc + 3) ls (rest))) : W p l e R s m args below meth c H locs cells slots Q (F0 m pc ls (.ref ((fg G).2.2.1 a1) :: .ref (b + 306) :: rest)) :=
  f_callV (As := [.ref ((fg G).2.2.1 a1)]) (ci := 12) (c_X12_word ha1 h) ⟨rfl, rfl⟩ rfl (ky_lm kyf_306 (by decide)) (wF_12 kyf_306) q_1667 qp_47 q_14 q_1668 rfl ⟨by decide +kernel, by decide +kernel, (show (parseMethodDescriptor yX12_word.desc).map (fun d => d.parameters.length) = some 1 by decide +kernel)⟩ F hl hR hW hS hsz hrest rfl hdg kk
set_option maxHeartbeats 4000000 in
set_option maxRecDepth 100000 in
theorem wk_X12_number_62 {n : Nat} {a1 : Int32} {a2 : Int32} {s0 : Int32} {μ : Mm} {out : (Int32 × Mm)} (F : FX (fg G) b RX12 cX12_number 4 p s m args meth c) (hr : meth.sig.returnType = some .int) (h : sh_X12_number_62 n a1 a2 s0 μ = some out) (hW : WH (fg G) b μ H) (hS : va_S (fb b) s.heap H locs) (hl : lv_has ls 4 [(0, .ref (b + 306))]) : W p l e ({ frames := 3, cells := 0, slots := 0, locals := 66 } : Room) s m args below meth c H locs 0 0 (MQ below (QW (fg G) b out.2 (some (.int out.1))) args s 0 0 (fb b)) (F0 m 62 ls [.int s0]) := by
  have hx := F.1
  have hb := F.2.1
  unfold sh_X12_number_62 at h
  refine lv_istore_n (lv' := [(3, .int s0), (0, .ref (b + 306))]) hx hb dX12_number_62 rfl hl (by decide) rfl (fun ls hl => ?_)
  refine lv_aload_n hx hb dX12_number_63 rfl (lv_at hl 1 rfl) ?_
  obtain ⟨r4, qr4, h⟩ := ob h
  refine k_X12_goOn F qr4 q_1683 ⟨Nat.le_of_ble_eq_true rfl, Nat.le_of_ble_eq_true rfl, Nat.le_of_ble_eq_true rfl, Nat.le_of_ble_eq_true rfl⟩ hW hS hl.1 (Nat.le_of_ble_eq_true rfl) dX12_number_64 (fun H locs hW hS => ?_)
  refine lv_iload_n hx hb dX12_number_67 rfl (lv_at hl 0 rfl) ?_
  cases h
  exact r_int F hr hW hS dX12_number_68
set_option maxHeartbeats 4000000 in
set_option maxRecDepth 100000 in
theorem wk_X12_number_47 {n : Nat} {a1 : Int32} {a2 : Int32} {μ : Mm} {out : (Int32 × Mm)} (F : FX (fg G) b RX12 cX12_number 4 p s m args meth c) (hr : meth.sig.returnType = some .int) (h : sh_X12_number_47 n a1 a2 μ = some out) (hW : WH (fg G) b μ H) (hS : va_S (fb b) s.heap H locs) (hl : lv_has ls 4 [(0, .ref (b + 306)), (1, .int a1)]) : W p l e ({ frames := 3, cells := 0, slots := 0, locals := 66 } : Room) s m args below meth c H locs 0 0 (MQ below (QW (fg G) b out.2 (some (.int out.1))) args s 0 0 (fb b)) (F0 m 47 ls []) := by
  have hx := F.1
  have hb := F.2.1
  unfold sh_X12_number_47 at h
  refine lv_aload_n hx hb dX12_number_47 rfl (lv_at hl 0 rfl) ?_
  obtain ⟨r3, qr3, h⟩ := ob h
  refine k_X12_good F qr3 q_1673 ⟨Nat.le_of_ble_eq_true rfl, Nat.le_of_ble_eq_true rfl, Nat.le_of_ble_eq_true rfl, Nat.le_of_ble_eq_true rfl⟩ hW hS hl.1 (Nat.le_of_ble_eq_true rfl) dX12_number_48 (fun H locs hW hS => ?_)
  refine lv_if_eq (tgt := 61) hx hb dX12_number_51 (by decide) (fun cc => ?_) (fun cc => ?_)
  · replace h := (if_pos cc).symm.trans h
    refine lv_iload_n hx hb dX12_number_61 rfl (lv_at hl 1 rfl) ?_
    exact wk_X12_number_62 F hr h hW hS (lv_sub hl [0] rfl)
  · replace h := (if_neg cc).symm.trans h
    refine lv_aload_n hx hb dX12_number_54 rfl (lv_at hl 0 rfl) ?_
    refine fl_get12 (v := .int (μ.1 306 10)) kyf_306 F hW 10 (by decide) q_1481 rfl rfl dX12_number_55 ?_
    refine lv_goto (tgt := 62) hx hb dX12_number_58 (by decide) ?_
    exact wk_X12_number_62 F hr h hW hS (lv_sub hl [0] rfl)
set_option maxHeartbeats 4000000 in
set_option maxRecDepth 100000 in
theorem wk_X12_number_20 {n : Nat} {a1 : Int32} {a2 : Int32} {μ : Mm} {out : (Int32 × Mm)} (F : FX (fg G) b RX12 cX12_number 4 p s m args meth c) (hr : meth.sig.returnType = some .int) (h : sh_X12_number_20 n a1 a2 μ = some out) (hW : WH (fg G) b μ H) (hS : va_S (fb b) s.heap H locs) (hl : lv_has ls 4 [(0, .ref (b + 306)), (1, .int a1), (2, .int a2)]) : W p l e ({ frames := 3, cells := 0, slots := 0, locals := 66 } : Room) s m args below meth c H locs 0 0 (MQ below (QW (fg G) b out.2 (some (.int out.1))) args s 0 0 (fb b)) (F0 m 20 ls []) := by
  have hx := F.1
  have hb := F.2.1
  unfold sh_X12_number_20 at h
  refine lv_aload_n hx hb dX12_number_20 rfl (lv_at hl 0 rfl) ?_
  obtain ⟨r2, qr2, h⟩ := ob h
  refine k_X12_good F qr2 q_1673 ⟨Nat.le_of_ble_eq_true rfl, Nat.le_of_ble_eq_true rfl, Nat.le_of_ble_eq_true rfl, Nat.le_of_ble_eq_true rfl⟩ hW hS hl.1 (Nat.le_of_ble_eq_true rfl) dX12_number_21 (fun H locs hW hS => ?_)
  refine lv_if_eq (tgt := 47) hx hb dX12_number_24 (by decide) (fun cc => ?_) (fun cc => ?_)
  · replace h := (if_pos cc).symm.trans h
    exact wk_X12_number_47 F hr h hW hS (lv_sub hl [0, 1] rfl)
  · replace h := (if_neg cc).symm.trans h
    refine lv_aload_n hx hb dX12_number_27 rfl (lv_at hl 0 rfl) ?_
    refine fl_get12 (v := .int (μ.1 306 10)) kyf_306 F hW 10 (by decide) q_1481 rfl rfl dX12_number_28 ?_
    refine lv_i2l hx hb dX12_number_31 rfl ?_
    refine lv_iload_n hx hb dX12_number_32 rfl (lv_at hl 1 rfl) ?_
    refine lv_i2l hx hb dX12_number_33 rfl ?_
    refine lv_iload_n hx hb dX12_number_34 rfl (lv_at hl 2 rfl) ?_
    refine lv_i2l hx hb dX12_number_35 rfl ?_
    obtain ⟨r5, qr5, h⟩ := ob h
    refine k_X12_in F qr5 q_1643 ⟨Nat.le_of_ble_eq_true rfl, Nat.le_of_ble_eq_true rfl, Nat.le_of_ble_eq_true rfl, Nat.le_of_ble_eq_true rfl⟩ hW hS hl.1 (Nat.le_of_ble_eq_true rfl) dX12_number_36 (fun H locs hW hS => ?_)
    refine lv_if_ne (tgt := 47) hx hb dX12_number_39 (by decide) (fun cc => ?_) (fun cc => ?_)
    · replace h := (if_neg cc).symm.trans h
      exact wk_X12_number_47 F hr h hW hS (lv_sub hl [0, 1] rfl)
    · replace h := (if_pos cc).symm.trans h
      refine lv_aload_n hx hb dX12_number_42 rfl (lv_at hl 0 rfl) ?_
      refine lv_iconst (v := (2 : Int32)) hx hb dX12_number_43 (by decide) ?_
      obtain ⟨r6, qr6, h⟩ := ob h
      refine k_X12_errs F qr6 q_1679 ⟨Nat.le_of_ble_eq_true rfl, Nat.le_of_ble_eq_true rfl, Nat.le_of_ble_eq_true rfl, Nat.le_of_ble_eq_true rfl⟩ hW hS hl.1 (Nat.le_of_ble_eq_true rfl) dX12_number_44 (fun H locs hW hS => ?_)
      exact wk_X12_number_47 F hr h hW hS (lv_sub hl [0, 1] rfl)
set_option maxHeartbeats 4000000 in
set_option maxRecDepth 100000 in
theorem wk_X12_number {n : Nat} {a1 : Int32} {a2 : Int32} {μ : Mm} {out : (Int32 × Mm)} (F : FX (fg G) b RX12 cX12_number 4 p s m args meth c) (hr : meth.sig.returnType = some .int) (h : sh_X12_number n a1 a2 μ = some out) (hW : WH (fg G) b μ H) (hS : va_S (fb b) s.heap H locs) (hl : lv_has ls 4 [(0, .ref (b + 306)), (1, .int a1), (2, .int a2)]) : W p l e ({ frames := 3, cells := 0, slots := 0, locals := 66 } : Room) s m args below meth c H locs 0 0 (MQ below (QW (fg G) b out.2 (some (.int out.1))) args s 0 0 (fb b)) (F0 m 0 ls []) := by
  have hx := F.1
  have hb := F.2.1
  unfold sh_X12_number at h
  refine lv_aload_n hx hb dX12_number_0 rfl (lv_at hl 0 rfl) ?_
  obtain ⟨r1, qr1, h⟩ := ob h
  refine k_X12_good F qr1 q_1673 ⟨Nat.le_of_ble_eq_true rfl, Nat.le_of_ble_eq_true rfl, Nat.le_of_ble_eq_true rfl, Nat.le_of_ble_eq_true rfl⟩ hW hS hl.1 (Nat.le_of_ble_eq_true rfl) dX12_number_1 (fun H locs hW hS => ?_)
  refine lv_if_eq (tgt := 20) hx hb dX12_number_4 (by decide) (fun cc => ?_) (fun cc => ?_)
  · replace h := (if_pos cc).symm.trans h
    exact wk_X12_number_20 F hr h hW hS (lv_sub hl [0, 1, 2] rfl)
  · replace h := (if_neg cc).symm.trans h
    refine lv_aload_n hx hb dX12_number_7 rfl (lv_at hl 0 rfl) ?_
    refine fl_get12 (v := .int (μ.1 306 9)) kyf_306 F hW 9 (by decide) q_1480 rfl rfl dX12_number_8 ?_
    refine lv_iconst (v := (2 : Int32)) hx hb dX12_number_11 (by decide) ?_
    refine lv_icmp_eq (tgt := 20) hx hb dX12_number_12 (by decide) (fun cc => ?_) (fun cc => ?_)
    · replace h := (if_pos cc).symm.trans h
      exact wk_X12_number_20 F hr h hW hS (lv_sub hl [0, 1, 2] rfl)
    · replace h := (if_neg cc).symm.trans h
      refine lv_aload_n hx hb dX12_number_15 rfl (lv_at hl 0 rfl) ?_
      refine lv_iconst (v := (1 : Int32)) hx hb dX12_number_16 (by decide) ?_
      obtain ⟨r7, qr7, h⟩ := ob h
      refine k_X12_errs F qr7 q_1679 ⟨Nat.le_of_ble_eq_true rfl, Nat.le_of_ble_eq_true rfl, Nat.le_of_ble_eq_true rfl, Nat.le_of_ble_eq_true rfl⟩ hW hS hl.1 (Nat.le_of_ble_eq_true rfl) dX12_number_17 (fun H locs hW hS => ?_)
      exact wk_X12_number_20 F hr h hW hS (lv_sub hl [0, 1, 2] rfl)
set_option maxHeartbeats 4000000 in
set_option maxRecDepth 100000 in
theorem c_X12_number {l : Launch} {G : Gt} {b : Nat} {n : Nat} {a1 : Int32} {a2 : Int32} {μ : Mm} {out : (Int32 × Mm)} (h : sh_X12_number n a1 a2 μ = some out) : Met l yX12_number (wU (Cond.code yX12_number cX12_number 4 (some .int))) ({ frames := 3, cells := 0, slots := 0, locals := 66 } : Room) (PcW (fg G) b μ [.ref (b + 306), .int a1, .int a2]) (QW (fg G) b out.2 (some (.int out.1))) 0 0 (fb b) :=
  met_of [.ref (b + 306), .int a1, .int a2] (by decide) (Nat.le_of_ble_eq_true rfl) (fun F hr hW hl => wk_X12_number F hr h hW va_S.rf hl)
set_option maxHeartbeats 4000000 in
set_option maxRecDepth 100000 in
theorem k_X12_number {own : String} {nL : Nat} (F : FX (fg G) b own cc nL p s m args meth c) {n : Nat} {a1 : Int32} {a2 : Int32} {μ : Mm} {out : (Int32 × Mm)} (h : sh_X12_number n a1 a2 μ = some out) {index : Nat} (hl : Cond.methodLink own index yX12_number ∈ TBG) (hR : 3 + 1 ≤ R.frames ∧ 8 + (4 + 11) + 66 ≤ R.locals ∧ cells ≤ R.cells ∧ slots ≤ R.slots) (hW : WH (fg G) b μ H) (hS : va_S (fb b) s.heap H locs) (hsz : ls.size = nL) (hrest : (rest.map fun v => v.category).sum ≤ 8) (hdg : decode cc pc = .ok (.invokevirtual index, 3))
    (kk : ∀ (H1 : Heap) (locs1 : List Loc), WH (fg G) b out.2 H1 → va_S (fb b) s.heap H1 locs1 → W p l e R s m args below meth c H1 locs1 cells slots Q (F0 m (pc + 3) ls (.int out.1 :: rest))) : W p l e R s m args below meth c H locs cells slots Q (F0 m pc ls (.int a2 :: .int a1 :: .ref (b + 306) :: rest)) :=
  f_callV (As := [.int a1, .int a2]) (ci := 12) (c_X12_number h) ⟨rfl, rfl⟩ rfl (ky_lm kyf_306 (by decide)) (wF_12 kyf_306) q_1694 qp_53 q_14 q_1695 rfl ⟨by decide +kernel, by decide +kernel, (show (parseMethodDescriptor yX12_number.desc).map (fun d => d.parameters.length) = some 2 by decide +kernel)⟩ F hl hR hW hS hsz hrest rfl hdg kk
set_option maxHeartbeats 4000000 in
set_option maxRecDepth 100000 in
theorem wk_X12_numberBehind {n : Nat} {a1 : Nat} {a2 : Int32} {a3 : Int32} {μ : Mm} {out : (Int32 × Mm)} (F : FX (fg G) b RX12 cX12_numberBehind 4 p s m args meth c) (hr : meth.sig.returnType = some .int) (ha1 : a1 < 13) (h : sh_X12_numberBehind n a1 a2 a3 μ = some out) (hW : WH (fg G) b μ H) (hS : va_S (fb b) s.heap H locs) (hl : lv_has ls 4 [(0, .ref (b + 306)), (1, .ref ((fg G).2.2.1 a1)), (2, .int a2), (3, .int a3)]) : W p l e ({ frames := 6, cells := 0, slots := 0, locals := 130 } : Room) s m args below meth c H locs 0 0 (MQ below (QW (fg G) b out.2 (some (.int out.1))) args s 0 0 (fb b)) (F0 m 0 ls []) := by
  have hx := F.1
  have hb := F.2.1
  unfold sh_X12_numberBehind at h
  refine lv_aload_n hx hb dX12_numberBehind_0 rfl (lv_at hl 0 rfl) ?_
  refine lv_aload_n hx hb dX12_numberBehind_1 rfl (lv_at hl 1 rfl) ?_
  obtain ⟨r1, qr1, h⟩ := ob h
  refine k_X12_word F ha1 qr1 q_1665 ⟨Nat.le_of_ble_eq_true rfl, Nat.le_of_ble_eq_true rfl, Nat.le_of_ble_eq_true rfl, Nat.le_of_ble_eq_true rfl⟩ hW hS hl.1 (Nat.le_of_ble_eq_true rfl) dX12_numberBehind_2 (fun H locs hW hS => ?_)
  refine lv_aload_n hx hb dX12_numberBehind_5 rfl (lv_at hl 0 rfl) ?_
  refine lv_iload_n hx hb dX12_numberBehind_6 rfl (lv_at hl 2 rfl) ?_
  refine lv_iload_n hx hb dX12_numberBehind_7 rfl (lv_at hl 3 rfl) ?_
  obtain ⟨r2, qr2, h⟩ := ob h
  refine k_X12_number F qr2 q_1692 ⟨Nat.le_of_ble_eq_true rfl, Nat.le_of_ble_eq_true rfl, Nat.le_of_ble_eq_true rfl, Nat.le_of_ble_eq_true rfl⟩ hW hS hl.1 (Nat.le_of_ble_eq_true rfl) dX12_numberBehind_8 (fun H locs hW hS => ?_)
  cases h
  exact r_int F hr hW hS dX12_numberBehind_11
set_option maxHeartbeats 4000000 in
set_option maxRecDepth 100000 in
theorem c_X12_numberBehind {l : Launch} {G : Gt} {b : Nat} {n : Nat} {a1 : Nat} {a2 : Int32} {a3 : Int32} {μ : Mm} {out : (Int32 × Mm)} (ha1 : a1 < 13) (h : sh_X12_numberBehind n a1 a2 a3 μ = some out) : Met l yX12_numberBehind (wU (Cond.code yX12_numberBehind cX12_numberBehind 4 (some .int))) ({ frames := 6, cells := 0, slots := 0, locals := 130 } : Room) (PcW (fg G) b μ [.ref (b + 306), .ref ((fg G).2.2.1 a1), .int a2, .int a3]) (QW (fg G) b out.2 (some (.int out.1))) 0 0 (fb b) :=
  met_of [.ref (b + 306), .ref ((fg G).2.2.1 a1), .int a2, .int a3] (by decide) (Nat.le_of_ble_eq_true rfl) (fun F hr hW hl => wk_X12_numberBehind F hr ha1 h hW va_S.rf hl)
set_option maxHeartbeats 4000000 in
set_option maxRecDepth 100000 in
theorem k_X12_numberBehind {own : String} {nL : Nat} (F : FX (fg G) b own cc nL p s m args meth c) {n : Nat} {a1 : Nat} {a2 : Int32} {a3 : Int32} {μ : Mm} {out : (Int32 × Mm)} (ha1 : a1 < 13) (h : sh_X12_numberBehind n a1 a2 a3 μ = some out) {index : Nat} (hl : Cond.methodLink own index yX12_numberBehind ∈ TBG) (hR : 6 + 1 ≤ R.frames ∧ 8 + (4 + 11) + 130 ≤ R.locals ∧ cells ≤ R.cells ∧ slots ≤ R.slots) (hW : WH (fg G) b μ H) (hS : va_S (fb b) s.heap H locs) (hsz : ls.size = nL) (hrest : (rest.map fun v => v.category).sum ≤ 8) (hdg : decode cc pc = .ok (.invokevirtual index, 3))
    (kk : ∀ (H1 : Heap) (locs1 : List Loc), WH (fg G) b out.2 H1 → va_S (fb b) s.heap H1 locs1 → W p l e R s m args below meth c H1 locs1 cells slots Q (F0 m (pc + 3) ls (.int out.1 :: rest))) : W p l e R s m args below meth c H locs cells slots Q (F0 m pc ls (.int a3 :: .int a2 :: .ref ((fg G).2.2.1 a1) :: .ref (b + 306) :: rest)) :=
  f_callV (As := [.ref ((fg G).2.2.1 a1), .int a2, .int a3]) (ci := 12) (c_X12_numberBehind ha1 h) ⟨rfl, rfl⟩ rfl (ky_lm kyf_306 (by decide)) (wF_12 kyf_306) q_1690 qp_52 q_14 q_1691 rfl ⟨by decide +kernel, by decide +kernel, (show (parseMethodDescriptor yX12_numberBehind.desc).map (fun d => d.parameters.length) = some 3 by decide +kernel)⟩ F hl hR hW hS hsz hrest rfl hdg kk
set_option maxHeartbeats 4000000 in
set_option maxRecDepth 100000 in
theorem wk_X12_semicolon_24 {n : Nat} {μ : Mm} {out : Mm} (F : FX (fg G) b RX12 cX12_semicolon 1 p s m args meth c) (hr : meth.sig.returnType = none) (h : sh_X12_semicolon_24 n μ = some out) (hW : WH (fg G) b μ H) (hS : va_S (fb b) s.heap H locs) (hl : lv_has ls 1 [(0, .ref (b + 306))]) : W p l e ({ frames := 3, cells := 0, slots := 0, locals := 66 } : Room) s m args below meth c H locs 0 0 (MQ below (QW (fg G) b out none) args s 0 0 (fb b)) (F0 m 24 ls []) := by
  have hx := F.1
  have hb := F.2.1
  unfold sh_X12_semicolon_24 at h
  refine lv_aload_n hx hb dX12_semicolon_24 rfl (lv_at hl 0 rfl) ?_
  refine lv_iconst (v := (1 : Int32)) hx hb dX12_semicolon_25 (by decide) ?_
  obtain ⟨r3, qr3, h⟩ := ob h
  refine k_X12_errs F qr3 q_1679 ⟨Nat.le_of_ble_eq_true rfl, Nat.le_of_ble_eq_true rfl, Nat.le_of_ble_eq_true rfl, Nat.le_of_ble_eq_true rfl⟩ hW hS hl.1 (Nat.le_of_ble_eq_true rfl) dX12_semicolon_26 (fun H locs hW hS => ?_)
  refine lv_aload_n hx hb dX12_semicolon_29 rfl (lv_at hl 0 rfl) ?_
  obtain ⟨r4, qr4, h⟩ := ob h
  refine k_X12_goOn F qr4 q_1683 ⟨Nat.le_of_ble_eq_true rfl, Nat.le_of_ble_eq_true rfl, Nat.le_of_ble_eq_true rfl, Nat.le_of_ble_eq_true rfl⟩ hW hS hl.1 (Nat.le_of_ble_eq_true rfl) dX12_semicolon_30 (fun H locs hW hS => ?_)
  cases h
  exact r_void F hr hW hS dX12_semicolon_33
set_option maxHeartbeats 4000000 in
set_option maxRecDepth 100000 in
theorem wk_X12_semicolon {n : Nat} {μ : Mm} {out : Mm} (F : FX (fg G) b RX12 cX12_semicolon 1 p s m args meth c) (hr : meth.sig.returnType = none) (h : sh_X12_semicolon n  μ = some out) (hW : WH (fg G) b μ H) (hS : va_S (fb b) s.heap H locs) (hl : lv_has ls 1 [(0, .ref (b + 306))]) : W p l e ({ frames := 3, cells := 0, slots := 0, locals := 66 } : Room) s m args below meth c H locs 0 0 (MQ below (QW (fg G) b out none) args s 0 0 (fb b)) (F0 m 0 ls []) := by
  have hx := F.1
  have hb := F.2.1
  unfold sh_X12_semicolon at h
  refine lv_aload_n hx hb dX12_semicolon_0 rfl (lv_at hl 0 rfl) ?_
  obtain ⟨r1, qr1, h⟩ := ob h
  refine k_X12_good F qr1 q_1673 ⟨Nat.le_of_ble_eq_true rfl, Nat.le_of_ble_eq_true rfl, Nat.le_of_ble_eq_true rfl, Nat.le_of_ble_eq_true rfl⟩ hW hS hl.1 (Nat.le_of_ble_eq_true rfl) dX12_semicolon_1 (fun H locs hW hS => ?_)
  refine lv_if_eq (tgt := 29) hx hb dX12_semicolon_4 (by decide) (fun cc => ?_) (fun cc => ?_)
  · replace h := (if_pos cc).symm.trans h
    refine lv_aload_n hx hb dX12_semicolon_29 rfl (lv_at hl 0 rfl) ?_
    obtain ⟨r2, qr2, h⟩ := ob h
    refine k_X12_goOn F qr2 q_1683 ⟨Nat.le_of_ble_eq_true rfl, Nat.le_of_ble_eq_true rfl, Nat.le_of_ble_eq_true rfl, Nat.le_of_ble_eq_true rfl⟩ hW hS hl.1 (Nat.le_of_ble_eq_true rfl) dX12_semicolon_30 (fun H locs hW hS => ?_)
    cases h
    exact r_void F hr hW hS dX12_semicolon_33
  · replace h := (if_neg cc).symm.trans h
    refine lv_aload_n hx hb dX12_semicolon_7 rfl (lv_at hl 0 rfl) ?_
    refine fl_get12 (v := .int (μ.1 306 9)) kyf_306 F hW 9 (by decide) q_1480 rfl rfl dX12_semicolon_8 ?_
    refine lv_iconst (v := (3 : Int32)) hx hb dX12_semicolon_11 (by decide) ?_
    refine lv_icmp_ne (tgt := 24) hx hb dX12_semicolon_12 (by decide) (fun cc => ?_) (fun cc => ?_)
    · replace h := (if_neg cc).symm.trans h
      exact wk_X12_semicolon_24 F hr h hW hS (lv_sub hl [0] rfl)
    · replace h := (if_pos cc).symm.trans h
      refine lv_aload_n hx hb dX12_semicolon_15 rfl (lv_at hl 0 rfl) ?_
      refine fl_get12 (v := .int (μ.1 306 10)) kyf_306 F hW 10 (by decide) q_1481 rfl rfl dX12_semicolon_16 ?_
      refine lv_bipush (v := (59 : Int32)) hx hb dX12_semicolon_19 (by decide) ?_
      refine lv_icmp_eq (tgt := 29) hx hb dX12_semicolon_21 (by decide) (fun cc => ?_) (fun cc => ?_)
      · replace h := (if_pos cc).symm.trans h
        refine lv_aload_n hx hb dX12_semicolon_29 rfl (lv_at hl 0 rfl) ?_
        obtain ⟨r5, qr5, h⟩ := ob h
        refine k_X12_goOn F qr5 q_1683 ⟨Nat.le_of_ble_eq_true rfl, Nat.le_of_ble_eq_true rfl, Nat.le_of_ble_eq_true rfl, Nat.le_of_ble_eq_true rfl⟩ hW hS hl.1 (Nat.le_of_ble_eq_true rfl) dX12_semicolon_30 (fun H locs hW hS => ?_)
        cases h
        exact r_void F hr hW hS dX12_semicolon_33
      · replace h := (if_neg cc).symm.trans h
        exact wk_X12_semicolon_24 F hr h hW hS (lv_sub hl [0] rfl)
set_option maxHeartbeats 4000000 in
set_option maxRecDepth 100000 in
theorem c_X12_semicolon {l : Launch} {G : Gt} {b : Nat} {n : Nat} {μ : Mm} {out : Mm} (h : sh_X12_semicolon n  μ = some out) : Met l yX12_semicolon (wU (Cond.code yX12_semicolon cX12_semicolon 1 none)) ({ frames := 3, cells := 0, slots := 0, locals := 66 } : Room) (PcW (fg G) b μ [.ref (b + 306)]) (QW (fg G) b out none) 0 0 (fb b) :=
  met_of [.ref (b + 306)] (by decide) (Nat.le_of_ble_eq_true rfl) (fun F hr hW hl => wk_X12_semicolon F hr h hW va_S.rf hl)
set_option maxHeartbeats 4000000 in
set_option maxRecDepth 100000 in
theorem k_X12_semicolon {own : String} {nL : Nat} (F : FX (fg G) b own cc nL p s m args meth c) {n : Nat} {μ : Mm} {out : Mm} (h : sh_X12_semicolon n  μ = some out) {index : Nat} (hl : Cond.methodLink own index yX12_semicolon ∈ TBG) (hR : 3 + 1 ≤ R.frames ∧ 8 + (1 + 11) + 66 ≤ R.locals ∧ cells ≤ R.cells ∧ slots ≤ R.slots) (hW : WH (fg G) b μ H) (hS : va_S (fb b) s.heap H locs) (hsz : ls.size = nL) (hrest : (rest.map fun v => v.category).sum ≤ 8) (hdg : decode cc pc = .ok (.invokevirtual index, 3))
    (kk : ∀ (H1 : Heap) (locs1 : List Loc), WH (fg G) b out H1 → va_S (fb b) s.heap H1 locs1 → W p l e R s m args below meth c H1 locs1 cells slots Q (F0 m (pc + 3) ls (rest))) : W p l e R s m args below meth c H locs cells slots Q (F0 m pc ls (.ref (b + 306) :: rest)) :=
  f_callV (As := []) (ci := 12) (c_X12_semicolon h) ⟨rfl, rfl⟩ rfl (ky_lm kyf_306 (by decide)) (wF_12 kyf_306) q_1700 qp_54 q_14 q_1701 rfl ⟨by decide +kernel, by decide +kernel, (show (parseMethodDescriptor yX12_semicolon.desc).map (fun d => d.parameters.length) = some 0 by decide +kernel)⟩ F hl hR hW hS hsz hrest rfl hdg kk
set_option maxHeartbeats 4000000 in
set_option maxRecDepth 100000 in
theorem wk_X12_keepWord_9 {n : Nat} {a1 : Int32} {out : Mm} (F : FX (fg G) b RX12 cX12_keepWord 4 p s m args meth c) (hr : meth.sig.returnType = none) : ∀ (f : Nat) (x2 : Int32) (x3 : Int32) (μ : Mm) (H : Heap) (locs : List Loc) (ls : Array Slot), sh_X12_keepWord_9 n a1 f x2 x3 μ = some out → WH (fg G) b μ H → va_S (fb b) s.heap H locs → lv_has ls 4 [(0, .ref (b + 306)), (1, .int a1), (2, .int x2), (3, .int x3)] → W p l e ({ frames := 1, cells := 0, slots := 0, locals := 23 } : Room) s m args below meth c H locs 0 0 (MQ below (QW (fg G) b out none) args s 0 0 (fb b)) (F0 m 9 ls []) := by
  have hx := F.1
  have hb := F.2.1
  intro f
  induction f with
  | zero =>
    intro _ _ _ _ _ _ h
    rw [sh_X12_keepWord_9] at h
    cases h
  | succ f ih =>
    intro x2 x3 μ H locs ls h hW hS hl
    rw [sh_X12_keepWord_9] at h
    have hk9 := ih
    refine lv_iload_n hx hb dX12_keepWord_9 rfl (lv_at hl 3 rfl) ?_
    refine lv_bipush (v := (12 : Int32)) hx hb dX12_keepWord_10 (by decide) ?_
    refine lv_icmp_ge (tgt := 63) hx hb dX12_keepWord_12 (by decide) (fun cc => ?_) (fun cc => ?_)
    · replace h := (if_pos cc).symm.trans h
      refine lv_aload_n hx hb dX12_keepWord_63 rfl (lv_at hl 0 rfl) ?_
      refine lv_iload_n hx hb dX12_keepWord_64 rfl (lv_at hl 1 rfl) ?_
      refine lv_iconst (v := (3 : Int32)) hx hb dX12_keepWord_65 (by decide) ?_
      refine lv_iload_n hx hb dX12_keepWord_66 rfl (lv_at hl 2 rfl) ?_
      refine lv_iconst (v := (1 : Int32)) hx hb dX12_keepWord_67 (by decide) ?_
      refine lv_iadd hx hb dX12_keepWord_68 ?_
      obtain ⟨r2, qr2, h⟩ := ob h
      refine k_X12_set F qr2 q_1727 ⟨Nat.le_of_ble_eq_true rfl, Nat.le_of_ble_eq_true rfl, Nat.le_of_ble_eq_true rfl, Nat.le_of_ble_eq_true rfl⟩ hW hS hl.1 (Nat.le_of_ble_eq_true rfl) dX12_keepWord_69 (fun H locs hW hS => ?_)
      cases h
      exact r_void F hr hW hS dX12_keepWord_72
    · replace h := (if_neg cc).symm.trans h
      refine lv_aload_n hx hb dX12_keepWord_15 rfl (lv_at hl 0 rfl) ?_
      refine lv_iload_n hx hb dX12_keepWord_16 rfl (lv_at hl 1 rfl) ?_
      refine lv_bipush (v := (6 : Int32)) hx hb dX12_keepWord_17 (by decide) ?_
      refine lv_bipush (v := (12 : Int32)) hx hb dX12_keepWord_19 (by decide) ?_
      refine lv_iload_n hx hb dX12_keepWord_21 rfl (lv_at hl 2 rfl) ?_
      refine lv_imul hx hb dX12_keepWord_22 ?_
      refine lv_iadd hx hb dX12_keepWord_23 ?_
      refine lv_iload_n hx hb dX12_keepWord_24 rfl (lv_at hl 3 rfl) ?_
      refine lv_iadd hx hb dX12_keepWord_25 ?_
      refine lv_iload_n hx hb dX12_keepWord_26 rfl (lv_at hl 3 rfl) ?_
      refine lv_aload_n hx hb dX12_keepWord_27 rfl (lv_at hl 0 rfl) ?_
      refine fl_get12 (v := .int (μ.1 306 7)) kyf_306 F hW 7 (by decide) q_1478 rfl rfl dX12_keepWord_28 ?_
      refine lv_aload_n hx hb dX12_keepWord_31 rfl (lv_at hl 0 rfl) ?_
      refine fl_get12 (v := .int (μ.1 306 8)) kyf_306 F hW 8 (by decide) q_1479 rfl rfl dX12_keepWord_32 ?_
      refine lv_isub hx hb dX12_keepWord_35 ?_
      refine lv_icmp_ge (tgt := 53) hx hb dX12_keepWord_36 (by decide) (fun cc => ?_) (fun cc => ?_)
      · replace h := (if_pos cc).symm.trans h
        refine lv_iconst (v := (0 : Int32)) hx hb dX12_keepWord_53 (by decide) ?_
        obtain ⟨r3, qr3, h⟩ := ob h
        refine k_X12_set F qr3 q_1727 ⟨Nat.le_of_ble_eq_true rfl, Nat.le_of_ble_eq_true rfl, Nat.le_of_ble_eq_true rfl, Nat.le_of_ble_eq_true rfl⟩ hW hS hl.1 (Nat.le_of_ble_eq_true rfl) dX12_keepWord_54 (fun H locs hW hS => ?_)
        refine lv_iinc (v := (x3 + (1 : Int32))) (lv' := [(3, .int (x3 + (1 : Int32))), (0, .ref (b + 306)), (1, .int a1), (2, .int x2)]) hx hb dX12_keepWord_57 hl (k := 3) rfl rfl (by decide) rfl (fun ls hl => ?_)
        refine lv_goto (tgt := 9) hx hb dX12_keepWord_60 (by decide) ?_
        exact hk9 _ _ _ _ _ _ h hW hS (lv_sub hl [1, 2, 3, 0] rfl)
      · replace h := (if_neg cc).symm.trans h
        refine lv_aload_n hx hb dX12_keepWord_39 rfl (lv_at hl 0 rfl) ?_
        refine fl_get12 (v := .ref (b + 309)) kyf_306 F hW 4 (by decide) q_1475 rfl rfl dX12_keepWord_40 ?_
        refine lv_aload_n hx hb dX12_keepWord_43 rfl (lv_at hl 0 rfl) ?_
        refine fl_get12 (v := .int (μ.1 306 8)) kyf_306 F hW 8 (by decide) q_1479 rfl rfl dX12_keepWord_44 ?_
        refine lv_iload_n hx hb dX12_keepWord_47 rfl (lv_at hl 3 rfl) ?_
        refine lv_iadd hx hb dX12_keepWord_48 ?_
        obtain ⟨v4, qv4, h⟩ := ob h
        refine fm_bald kyf_309 F hW qv4 dX12_keepWord_49 ?_
        refine lv_goto (tgt := 54) hx hb dX12_keepWord_50 (by decide) ?_
        obtain ⟨r5, qr5, h⟩ := ob h
        refine k_X12_set F qr5 q_1727 ⟨Nat.le_of_ble_eq_true rfl, Nat.le_of_ble_eq_true rfl, Nat.le_of_ble_eq_true rfl, Nat.le_of_ble_eq_true rfl⟩ hW hS hl.1 (Nat.le_of_ble_eq_true rfl) dX12_keepWord_54 (fun H locs hW hS => ?_)
        refine lv_iinc (v := (x3 + (1 : Int32))) (lv' := [(3, .int (x3 + (1 : Int32))), (0, .ref (b + 306)), (1, .int a1), (2, .int x2)]) hx hb dX12_keepWord_57 hl (k := 3) rfl rfl (by decide) rfl (fun ls hl => ?_)
        refine lv_goto (tgt := 9) hx hb dX12_keepWord_60 (by decide) ?_
        exact hk9 _ _ _ _ _ _ h hW hS (lv_sub hl [1, 2, 3, 0] rfl)
set_option maxHeartbeats 4000000 in
set_option maxRecDepth 100000 in
theorem wk_X12_keepWord {n : Nat} {a1 : Int32} {μ : Mm} {out : Mm} (F : FX (fg G) b RX12 cX12_keepWord 4 p s m args meth c) (hr : meth.sig.returnType = none) (h : sh_X12_keepWord n a1 μ = some out) (hW : WH (fg G) b μ H) (hS : va_S (fb b) s.heap H locs) (hl : lv_has ls 4 [(0, .ref (b + 306)), (1, .int a1)]) : W p l e ({ frames := 1, cells := 0, slots := 0, locals := 23 } : Room) s m args below meth c H locs 0 0 (MQ below (QW (fg G) b out none) args s 0 0 (fb b)) (F0 m 0 ls []) := by
  have hx := F.1
  have hb := F.2.1
  unfold sh_X12_keepWord at h
  refine lv_aload_n hx hb dX12_keepWord_0 rfl (lv_at hl 0 rfl) ?_
  refine lv_iload_n hx hb dX12_keepWord_1 rfl (lv_at hl 1 rfl) ?_
  refine lv_iconst (v := (3 : Int32)) hx hb dX12_keepWord_2 (by decide) ?_
  obtain ⟨r1, qr1, h⟩ := ob h
  refine k_X12_of F qr1 q_1735 ⟨Nat.le_of_ble_eq_true rfl, Nat.le_of_ble_eq_true rfl, Nat.le_of_ble_eq_true rfl, Nat.le_of_ble_eq_true rfl⟩ hW hS hl.1 (Nat.le_of_ble_eq_true rfl) dX12_keepWord_3 (fun H locs hW hS => ?_)
  refine lv_istore_n (lv' := [(2, .int r1), (0, .ref (b + 306)), (1, .int a1)]) hx hb dX12_keepWord_6 rfl hl (by decide) rfl (fun ls hl => ?_)
  refine lv_iconst (v := (0 : Int32)) hx hb dX12_keepWord_7 (by decide) ?_
  refine lv_istore_n (lv' := [(3, .int (0 : Int32)), (2, .int r1), (0, .ref (b + 306)), (1, .int a1)]) hx hb dX12_keepWord_8 rfl hl (by decide) rfl (fun ls hl => ?_)
  exact wk_X12_keepWord_9 F hr n _ _ _ _ _ _ h hW hS (lv_sub hl [2, 3, 1, 0] rfl)
set_option maxHeartbeats 4000000 in
set_option maxRecDepth 100000 in
theorem c_X12_keepWord {l : Launch} {G : Gt} {b : Nat} {n : Nat} {a1 : Int32} {μ : Mm} {out : Mm} (h : sh_X12_keepWord n a1 μ = some out) : Met l yX12_keepWord (wU (Cond.code yX12_keepWord cX12_keepWord 4 none)) ({ frames := 1, cells := 0, slots := 0, locals := 23 } : Room) (PcW (fg G) b μ [.ref (b + 306), .int a1]) (QW (fg G) b out none) 0 0 (fb b) :=
  met_of [.ref (b + 306), .int a1] (by decide) (Nat.le_of_ble_eq_true rfl) (fun F hr hW hl => wk_X12_keepWord F hr h hW va_S.rf hl)
set_option maxHeartbeats 4000000 in
set_option maxRecDepth 100000 in
theorem k_X12_keepWord {own : String} {nL : Nat} (F : FX (fg G) b own cc nL p s m args meth c) {n : Nat} {a1 : Int32} {μ : Mm} {out : Mm} (h : sh_X12_keepWord n a1 μ = some out) {index : Nat} (hl : Cond.methodLink own index yX12_keepWord ∈ TBG) (hR : 1 + 1 ≤ R.frames ∧ 8 + (4 + 11) + 23 ≤ R.locals ∧ cells ≤ R.cells ∧ slots ≤ R.slots) (hW : WH (fg G) b μ H) (hS : va_S (fb b) s.heap H locs) (hsz : ls.size = nL) (hrest : (rest.map fun v => v.category).sum ≤ 8) (hdg : decode cc pc = .ok (.invokevirtual index, 3))
    (kk : ∀ (H1 : Heap) (locs1 : List Loc), WH (fg G) b out H1 → va_S (fb b) s.heap H1 locs1 → W p l e R s m args below meth c H1 locs1 cells slots Q (F0 m (pc + 3) ls (rest))) : W p l e R s m args below meth c H locs cells slots Q (F0 m pc ls (.int a1 :: .ref (b + 306) :: rest)) :=
  f_callV (As := [.int a1]) (ci := 12) (c_X12_keepWord h) ⟨rfl, rfl⟩ rfl (ky_lm kyf_306 (by decide)) (wF_12 kyf_306) q_1745 qp_63 q_14 q_1746 rfl ⟨by decide +kernel, by decide +kernel, (show (parseMethodDescriptor yX12_keepWord.desc).map (fun d => d.parameters.length) = some 1 by decide +kernel)⟩ F hl hR hW hS hsz hrest rfl hdg kk
set_option maxHeartbeats 4000000 in
set_option maxRecDepth 100000 in
theorem wk_X12_parseTitle_76 {n : Nat} {a1 : Int32} {k7 : (Mm → Option Mm)} {μ : Mm} {out : Mm} (F : FX (fg G) b RX12 cX12_parseTitle 2 p s m args meth c) (hr : meth.sig.returnType = none) (hk7 : ∀ (μ : Mm) (H : Heap) (locs : List Loc) (ls : Array Slot), k7 μ = some out → WH (fg G) b μ H → va_S (fb b) s.heap H locs → lv_has ls 2 [(0, .ref (b + 306)), (1, .int a1)] → W p l e ({ frames := 3, cells := 0, slots := 0, locals := 66 } : Room) s m args below meth c H locs 0 0 (MQ below (QW (fg G) b out none) args s 0 0 (fb b)) (F0 m 7 ls [])) (h : sh_X12_parseTitle_76 n a1 k7 μ = some out) (hW : WH (fg G) b μ H) (hS : va_S (fb b) s.heap H locs) (hl : lv_has ls 2 [(0, .ref (b + 306)), (1, .int a1)]) : W p l e ({ frames := 3, cells := 0, slots := 0, locals := 66 } : Room) s m args below meth c H locs 0 0 (MQ below (QW (fg G) b out none) args s 0 0 (fb b)) (F0 m 76 ls []) := by
  have hx := F.1
  have hb := F.2.1
  unfold sh_X12_parseTitle_76 at h
  refine lv_aload_n hx hb dX12_parseTitle_76 rfl (lv_at hl 0 rfl) ?_
  obtain ⟨r5, qr5, h⟩ := ob h
  refine k_X12_goOn F qr5 q_1683 ⟨Nat.le_of_ble_eq_true rfl, Nat.le_of_ble_eq_true rfl, Nat.le_of_ble_eq_true rfl, Nat.le_of_ble_eq_true rfl⟩ hW hS hl.1 (Nat.le_of_ble_eq_true rfl) dX12_parseTitle_77 (fun H locs hW hS => ?_)
  refine lv_aload_n hx hb dX12_parseTitle_80 rfl (lv_at hl 0 rfl) ?_
  obtain ⟨r6, qr6, h⟩ := ob h
  refine k_X12_good F qr6 q_1673 ⟨Nat.le_of_ble_eq_true rfl, Nat.le_of_ble_eq_true rfl, Nat.le_of_ble_eq_true rfl, Nat.le_of_ble_eq_true rfl⟩ hW hS hl.1 (Nat.le_of_ble_eq_true rfl) dX12_parseTitle_81 (fun H locs hW hS => ?_)
  refine lv_if_eq (tgt := 95) hx hb dX12_parseTitle_84 (by decide) (fun cc => ?_) (fun cc => ?_)
  · replace h := (if_pos cc).symm.trans h
    cases h
    exact r_void F hr hW hS dX12_parseTitle_95
  · replace h := (if_neg cc).symm.trans h
    refine lv_aload_n hx hb dX12_parseTitle_87 rfl (lv_at hl 0 rfl) ?_
    refine fl_get12 (v := .int (r5.1 306 9)) kyf_306 F hW 9 (by decide) q_1480 rfl rfl dX12_parseTitle_88 ?_
    refine lv_iconst (v := (1 : Int32)) hx hb dX12_parseTitle_91 (by decide) ?_
    refine lv_icmp_eq (tgt := 7) hx hb dX12_parseTitle_92 (by decide) (fun cc => ?_) (fun cc => ?_)
    · replace h := (if_pos cc).symm.trans h
      exact hk7 _ _ _ _ h hW hS (lv_sub hl [0, 1] rfl)
    · replace h := (if_neg cc).symm.trans h
      cases h
      exact r_void F hr hW hS dX12_parseTitle_95
set_option maxHeartbeats 4000000 in
set_option maxRecDepth 100000 in
theorem wk_X12_parseTitle_64 {n : Nat} {a1 : Int32} {k7 : (Mm → Option Mm)} {μ : Mm} {out : Mm} (F : FX (fg G) b RX12 cX12_parseTitle 2 p s m args meth c) (hr : meth.sig.returnType = none) (hk7 : ∀ (μ : Mm) (H : Heap) (locs : List Loc) (ls : Array Slot), k7 μ = some out → WH (fg G) b μ H → va_S (fb b) s.heap H locs → lv_has ls 2 [(0, .ref (b + 306)), (1, .int a1)] → W p l e ({ frames := 3, cells := 0, slots := 0, locals := 66 } : Room) s m args below meth c H locs 0 0 (MQ below (QW (fg G) b out none) args s 0 0 (fb b)) (F0 m 7 ls [])) (h : sh_X12_parseTitle_64 n a1 k7 μ = some out) (hW : WH (fg G) b μ H) (hS : va_S (fb b) s.heap H locs) (hl : lv_has ls 2 [(0, .ref (b + 306)), (1, .int a1)]) : W p l e ({ frames := 3, cells := 0, slots := 0, locals := 66 } : Room) s m args below meth c H locs 0 0 (MQ below (QW (fg G) b out none) args s 0 0 (fb b)) (F0 m 64 ls []) := by
  have hx := F.1
  have hb := F.2.1
  unfold sh_X12_parseTitle_64 at h
  refine lv_aload_n hx hb dX12_parseTitle_64 rfl (lv_at hl 0 rfl) ?_
  obtain ⟨r4, qr4, h⟩ := ob h
  refine k_X12_good F qr4 q_1673 ⟨Nat.le_of_ble_eq_true rfl, Nat.le_of_ble_eq_true rfl, Nat.le_of_ble_eq_true rfl, Nat.le_of_ble_eq_true rfl⟩ hW hS hl.1 (Nat.le_of_ble_eq_true rfl) dX12_parseTitle_65 (fun H locs hW hS => ?_)
  refine lv_if_eq (tgt := 76) hx hb dX12_parseTitle_68 (by decide) (fun cc => ?_) (fun cc => ?_)
  · replace h := (if_pos cc).symm.trans h
    exact wk_X12_parseTitle_76 F hr hk7 h hW hS (lv_sub hl [0, 1] rfl)
  · replace h := (if_neg cc).symm.trans h
    refine lv_aload_n hx hb dX12_parseTitle_71 rfl (lv_at hl 0 rfl) ?_
    refine lv_iload_n hx hb dX12_parseTitle_72 rfl (lv_at hl 1 rfl) ?_
    obtain ⟨r7, qr7, h⟩ := ob h
    refine k_X12_keepWord F qr7 q_1743 ⟨Nat.le_of_ble_eq_true rfl, Nat.le_of_ble_eq_true rfl, Nat.le_of_ble_eq_true rfl, Nat.le_of_ble_eq_true rfl⟩ hW hS hl.1 (Nat.le_of_ble_eq_true rfl) dX12_parseTitle_73 (fun H locs hW hS => ?_)
    exact wk_X12_parseTitle_76 F hr hk7 h hW hS (lv_sub hl [0, 1] rfl)
set_option maxHeartbeats 4000000 in
set_option maxRecDepth 100000 in
theorem wk_X12_parseTitle_41 {n : Nat} {a1 : Int32} {k7 : (Mm → Option Mm)} {μ : Mm} {out : Mm} (F : FX (fg G) b RX12 cX12_parseTitle 2 p s m args meth c) (hr : meth.sig.returnType = none) (hk7 : ∀ (μ : Mm) (H : Heap) (locs : List Loc) (ls : Array Slot), k7 μ = some out → WH (fg G) b μ H → va_S (fb b) s.heap H locs → lv_has ls 2 [(0, .ref (b + 306)), (1, .int a1)] → W p l e ({ frames := 3, cells := 0, slots := 0, locals := 66 } : Room) s m args below meth c H locs 0 0 (MQ below (QW (fg G) b out none) args s 0 0 (fb b)) (F0 m 7 ls [])) (h : sh_X12_parseTitle_41 n a1 k7 μ = some out) (hW : WH (fg G) b μ H) (hS : va_S (fb b) s.heap H locs) (hl : lv_has ls 2 [(0, .ref (b + 306)), (1, .int a1)]) : W p l e ({ frames := 3, cells := 0, slots := 0, locals := 66 } : Room) s m args below meth c H locs 0 0 (MQ below (QW (fg G) b out none) args s 0 0 (fb b)) (F0 m 41 ls []) := by
  have hx := F.1
  have hb := F.2.1
  unfold sh_X12_parseTitle_41 at h
  refine lv_aload_n hx hb dX12_parseTitle_41 rfl (lv_at hl 0 rfl) ?_
  obtain ⟨r3, qr3, h⟩ := ob h
  refine k_X12_good F qr3 q_1673 ⟨Nat.le_of_ble_eq_true rfl, Nat.le_of_ble_eq_true rfl, Nat.le_of_ble_eq_true rfl, Nat.le_of_ble_eq_true rfl⟩ hW hS hl.1 (Nat.le_of_ble_eq_true rfl) dX12_parseTitle_42 (fun H locs hW hS => ?_)
  refine lv_if_eq (tgt := 64) hx hb dX12_parseTitle_45 (by decide) (fun cc => ?_) (fun cc => ?_)
  · replace h := (if_pos cc).symm.trans h
    exact wk_X12_parseTitle_64 F hr hk7 h hW hS (lv_sub hl [0, 1] rfl)
  · replace h := (if_neg cc).symm.trans h
    refine lv_aload_n hx hb dX12_parseTitle_48 rfl (lv_at hl 0 rfl) ?_
    refine lv_iload_n hx hb dX12_parseTitle_49 rfl (lv_at hl 1 rfl) ?_
    refine lv_iconst (v := (3 : Int32)) hx hb dX12_parseTitle_50 (by decide) ?_
    obtain ⟨r8, qr8, h⟩ := ob h
    refine k_X12_of F qr8 q_1735 ⟨Nat.le_of_ble_eq_true rfl, Nat.le_of_ble_eq_true rfl, Nat.le_of_ble_eq_true rfl, Nat.le_of_ble_eq_true rfl⟩ hW hS hl.1 (Nat.le_of_ble_eq_true rfl) dX12_parseTitle_51 (fun H locs hW hS => ?_)
    refine lv_bipush (v := (8 : Int32)) hx hb dX12_parseTitle_54 (by decide) ?_
    refine lv_icmp_ne (tgt := 64) hx hb dX12_parseTitle_56 (by decide) (fun cc => ?_) (fun cc => ?_)
    · replace h := (if_neg cc).symm.trans h
      exact wk_X12_parseTitle_64 F hr hk7 h hW hS (lv_sub hl [0, 1] rfl)
    · replace h := (if_pos cc).symm.trans h
      refine lv_aload_n hx hb dX12_parseTitle_59 rfl (lv_at hl 0 rfl) ?_
      refine lv_iconst (v := (4 : Int32)) hx hb dX12_parseTitle_60 (by decide) ?_
      obtain ⟨r9, qr9, h⟩ := ob h
      refine k_X12_errs F qr9 q_1679 ⟨Nat.le_of_ble_eq_true rfl, Nat.le_of_ble_eq_true rfl, Nat.le_of_ble_eq_true rfl, Nat.le_of_ble_eq_true rfl⟩ hW hS hl.1 (Nat.le_of_ble_eq_true rfl) dX12_parseTitle_61 (fun H locs hW hS => ?_)
      exact wk_X12_parseTitle_64 F hr hk7 h hW hS (lv_sub hl [0, 1] rfl)
set_option maxHeartbeats 4000000 in
set_option maxRecDepth 100000 in
theorem wk_X12_parseTitle_36 {n : Nat} {a1 : Int32} {k7 : (Mm → Option Mm)} {μ : Mm} {out : Mm} (F : FX (fg G) b RX12 cX12_parseTitle 2 p s m args meth c) (hr : meth.sig.returnType = none) (hk7 : ∀ (μ : Mm) (H : Heap) (locs : List Loc) (ls : Array Slot), k7 μ = some out → WH (fg G) b μ H → va_S (fb b) s.heap H locs → lv_has ls 2 [(0, .ref (b + 306)), (1, .int a1)] → W p l e ({ frames := 3, cells := 0, slots := 0, locals := 66 } : Room) s m args below meth c H locs 0 0 (MQ below (QW (fg G) b out none) args s 0 0 (fb b)) (F0 m 7 ls [])) (h : sh_X12_parseTitle_36 n a1 k7 μ = some out) (hW : WH (fg G) b μ H) (hS : va_S (fb b) s.heap H locs) (hl : lv_has ls 2 [(0, .ref (b + 306)), (1, .int a1)]) : W p l e ({ frames := 3, cells := 0, slots := 0, locals := 66 } : Room) s m args below meth c H locs 0 0 (MQ below (QW (fg G) b out none) args s 0 0 (fb b)) (F0 m 36 ls []) := by
  have hx := F.1
  have hb := F.2.1
  unfold sh_X12_parseTitle_36 at h
  refine lv_aload_n hx hb dX12_parseTitle_36 rfl (lv_at hl 0 rfl) ?_
  refine lv_iconst (v := (1 : Int32)) hx hb dX12_parseTitle_37 (by decide) ?_
  obtain ⟨r10, qr10, h⟩ := ob h
  refine k_X12_errs F qr10 q_1679 ⟨Nat.le_of_ble_eq_true rfl, Nat.le_of_ble_eq_true rfl, Nat.le_of_ble_eq_true rfl, Nat.le_of_ble_eq_true rfl⟩ hW hS hl.1 (Nat.le_of_ble_eq_true rfl) dX12_parseTitle_38 (fun H locs hW hS => ?_)
  exact wk_X12_parseTitle_41 F hr hk7 h hW hS (lv_sub hl [0, 1] rfl)
set_option maxHeartbeats 4000000 in
set_option maxRecDepth 100000 in
theorem wk_X12_parseTitle_7 {n : Nat} {a1 : Int32} {out : Mm} (F : FX (fg G) b RX12 cX12_parseTitle 2 p s m args meth c) (hr : meth.sig.returnType = none) : ∀ (f : Nat) (μ : Mm) (H : Heap) (locs : List Loc) (ls : Array Slot), sh_X12_parseTitle_7 n a1 f μ = some out → WH (fg G) b μ H → va_S (fb b) s.heap H locs → lv_has ls 2 [(0, .ref (b + 306)), (1, .int a1)] → W p l e ({ frames := 3, cells := 0, slots := 0, locals := 66 } : Room) s m args below meth c H locs 0 0 (MQ below (QW (fg G) b out none) args s 0 0 (fb b)) (F0 m 7 ls []) := by
  have hx := F.1
  have hb := F.2.1
  intro f
  induction f with
  | zero =>
    intro _ _ _ _ h
    rw [sh_X12_parseTitle_7] at h
    cases h
  | succ f ih =>
    intro μ H locs ls h hW hS hl
    rw [sh_X12_parseTitle_7] at h
    have hk7 := ih
    refine lv_aload_n hx hb dX12_parseTitle_7 rfl (lv_at hl 0 rfl) ?_
    obtain ⟨r2, qr2, h⟩ := ob h
    refine k_X12_good F qr2 q_1673 ⟨Nat.le_of_ble_eq_true rfl, Nat.le_of_ble_eq_true rfl, Nat.le_of_ble_eq_true rfl, Nat.le_of_ble_eq_true rfl⟩ hW hS hl.1 (Nat.le_of_ble_eq_true rfl) dX12_parseTitle_8 (fun H locs hW hS => ?_)
    refine lv_if_eq (tgt := 41) hx hb dX12_parseTitle_11 (by decide) (fun cc => ?_) (fun cc => ?_)
    · replace h := (if_pos cc).symm.trans h
      exact wk_X12_parseTitle_41 F hr hk7 h hW hS (lv_sub hl [0, 1] rfl)
    · replace h := (if_neg cc).symm.trans h
      refine lv_aload_n hx hb dX12_parseTitle_14 rfl (lv_at hl 0 rfl) ?_
      refine fl_get12 (v := .int (μ.1 306 9)) kyf_306 F hW 9 (by decide) q_1480 rfl rfl dX12_parseTitle_15 ?_
      refine lv_iconst (v := (1 : Int32)) hx hb dX12_parseTitle_18 (by decide) ?_
      refine lv_icmp_ne (tgt := 36) hx hb dX12_parseTitle_19 (by decide) (fun cc => ?_) (fun cc => ?_)
      · replace h := (if_neg cc).symm.trans h
        exact wk_X12_parseTitle_36 F hr hk7 h hW hS (lv_sub hl [0, 1] rfl)
      · replace h := (if_pos cc).symm.trans h
        refine lv_aload_n hx hb dX12_parseTitle_22 rfl (lv_at hl 0 rfl) ?_
        refine fl_get12 (v := .int (μ.1 306 7)) kyf_306 F hW 7 (by decide) q_1478 rfl rfl dX12_parseTitle_23 ?_
        refine lv_aload_n hx hb dX12_parseTitle_26 rfl (lv_at hl 0 rfl) ?_
        refine fl_get12 (v := .int (μ.1 306 8)) kyf_306 F hW 8 (by decide) q_1479 rfl rfl dX12_parseTitle_27 ?_
        refine lv_isub hx hb dX12_parseTitle_30 ?_
        refine lv_bipush (v := (12 : Int32)) hx hb dX12_parseTitle_31 (by decide) ?_
        refine lv_icmp_le (tgt := 41) hx hb dX12_parseTitle_33 (by decide) (fun cc => ?_) (fun cc => ?_)
        · replace h := (if_pos cc).symm.trans h
          exact wk_X12_parseTitle_41 F hr hk7 h hW hS (lv_sub hl [0, 1] rfl)
        · replace h := (if_neg cc).symm.trans h
          exact wk_X12_parseTitle_36 F hr hk7 h hW hS (lv_sub hl [0, 1] rfl)
set_option maxHeartbeats 4000000 in
set_option maxRecDepth 100000 in
theorem wk_X12_parseTitle {n : Nat} {a1 : Int32} {μ : Mm} {out : Mm} (F : FX (fg G) b RX12 cX12_parseTitle 2 p s m args meth c) (hr : meth.sig.returnType = none) (h : sh_X12_parseTitle n a1 μ = some out) (hW : WH (fg G) b μ H) (hS : va_S (fb b) s.heap H locs) (hl : lv_has ls 2 [(0, .ref (b + 306)), (1, .int a1)]) : W p l e ({ frames := 3, cells := 0, slots := 0, locals := 66 } : Room) s m args below meth c H locs 0 0 (MQ below (QW (fg G) b out none) args s 0 0 (fb b)) (F0 m 0 ls []) := by
  have hx := F.1
  have hb := F.2.1
  unfold sh_X12_parseTitle at h
  refine lv_aload_n hx hb dX12_parseTitle_0 rfl (lv_at hl 0 rfl) ?_
  refine lv_iload_n hx hb dX12_parseTitle_1 rfl (lv_at hl 1 rfl) ?_
  refine lv_iconst (v := (3 : Int32)) hx hb dX12_parseTitle_2 (by decide) ?_
  refine lv_iconst (v := (0 : Int32)) hx hb dX12_parseTitle_3 (by decide) ?_
  obtain ⟨r1, qr1, h⟩ := ob h
  refine k_X12_set F qr1 q_1727 ⟨Nat.le_of_ble_eq_true rfl, Nat.le_of_ble_eq_true rfl, Nat.le_of_ble_eq_true rfl, Nat.le_of_ble_eq_true rfl⟩ hW hS hl.1 (Nat.le_of_ble_eq_true rfl) dX12_parseTitle_4 (fun H locs hW hS => ?_)
  exact wk_X12_parseTitle_7 F hr n _ _ _ _ h hW hS (lv_sub hl [0, 1] rfl)
set_option maxHeartbeats 4000000 in
set_option maxRecDepth 100000 in
theorem c_X12_parseTitle {l : Launch} {G : Gt} {b : Nat} {n : Nat} {a1 : Int32} {μ : Mm} {out : Mm} (h : sh_X12_parseTitle n a1 μ = some out) : Met l yX12_parseTitle (wU (Cond.code yX12_parseTitle cX12_parseTitle 2 none)) ({ frames := 3, cells := 0, slots := 0, locals := 66 } : Room) (PcW (fg G) b μ [.ref (b + 306), .int a1]) (QW (fg G) b out none) 0 0 (fb b) :=
  met_of [.ref (b + 306), .int a1] (by decide) (Nat.le_of_ble_eq_true rfl) (fun F hr hW hl => wk_X12_parseTitle F hr h hW va_S.rf hl)
set_option maxHeartbeats 4000000 in
set_option maxRecDepth 100000 in
theorem k_X12_parseTitle {own : String} {nL : Nat} (F : FX (fg G) b own cc nL p s m args meth c) {n : Nat} {a1 : Int32} {μ : Mm} {out : Mm} (h : sh_X12_parseTitle n a1 μ = some out) {index : Nat} (hl : Cond.methodLink own index yX12_parseTitle ∈ TBG) (hR : 3 + 1 ≤ R.frames ∧ 8 + (2 + 11) + 66 ≤ R.locals ∧ cells ≤ R.cells ∧ slots ≤ R.slots) (hW : WH (fg G) b μ H) (hS : va_S (fb b) s.heap H locs) (hsz : ls.size = nL) (hrest : (rest.map fun v => v.category).sum ≤ 8) (hdg : decode cc pc = .ok (.invokevirtual index, 3))
    (kk : ∀ (H1 : Heap) (locs1 : List Loc), WH (fg G) b out H1 → va_S (fb b) s.heap H1 locs1 → W p l e R s m args below meth c H1 locs1 cells slots Q (F0 m (pc + 3) ls (rest))) : W p l e R s m args below meth c H locs cells slots Q (F0 m pc ls (.int a1 :: .ref (b + 306) :: rest)) :=
  f_callV (As := [.int a1]) (ci := 12) (c_X12_parseTitle h) ⟨rfl, rfl⟩ rfl (ky_lm kyf_306 (by decide)) (wF_12 kyf_306) q_1741 qp_62 q_14 q_1742 rfl ⟨by decide +kernel, by decide +kernel, (show (parseMethodDescriptor yX12_parseTitle.desc).map (fun d => d.parameters.length) = some 1 by decide +kernel)⟩ F hl hR hW hS hsz hrest rfl hdg kk
set_option maxHeartbeats 4000000 in
set_option maxRecDepth 100000 in
theorem wk_X12_levelBehind {a1 : Int32} {a2 : Int32} {μ : Mm} {out : Int32} (F : FX (fg G) b RX12 cX12_levelBehind 3 p s m args meth c) (hr : meth.sig.returnType = some .int) (h : sh_X12_levelBehind a1 a2 μ = some out) (hW : WH (fg G) b μ H) (hS : va_S (fb b) s.heap H locs) (hl : lv_has ls 3 [(0, .ref (b + 306)), (1, .int a1), (2, .int a2)]) : W p l e ({ frames := 1, cells := 0, slots := 0, locals := 22 } : Room) s m args below meth c H locs 0 0 (MQ below (QW (fg G) b μ (some (.int out))) args s 0 0 (fb b)) (F0 m 0 ls []) := by
  have hx := F.1
  have hb := F.2.1
  unfold sh_X12_levelBehind at h
  refine lv_iload_n hx hb dX12_levelBehind_0 rfl (lv_at hl 1 rfl) ?_
  refine lv_if_lt (tgt := 14) hx hb dX12_levelBehind_1 (by decide) (fun cc => ?_) (fun cc => ?_)
  · replace h := (if_pos cc).symm.trans h
    refine lv_iconst (v := (1 : Int32)) hx hb dX12_levelBehind_14 (by decide) ?_
    refine lv_goto (tgt := 30) hx hb dX12_levelBehind_15 (by decide) ?_
    cases h
    exact r_int F hr hW hS dX12_levelBehind_30
  · replace h := (if_neg cc).symm.trans h
    refine lv_aload_n hx hb dX12_levelBehind_4 rfl (lv_at hl 0 rfl) ?_
    refine lv_iload_n hx hb dX12_levelBehind_5 rfl (lv_at hl 1 rfl) ?_
    refine lv_iconst (v := (2 : Int32)) hx hb dX12_levelBehind_6 (by decide) ?_
    obtain ⟨r1, qr1, h⟩ := ob h
    refine k_X12_of F qr1 q_1735 ⟨Nat.le_of_ble_eq_true rfl, Nat.le_of_ble_eq_true rfl, Nat.le_of_ble_eq_true rfl, Nat.le_of_ble_eq_true rfl⟩ hW hS hl.1 (Nat.le_of_ble_eq_true rfl) dX12_levelBehind_7 (fun H locs hW hS => ?_)
    refine lv_iload_n hx hb dX12_levelBehind_10 rfl (lv_at hl 2 rfl) ?_
    refine lv_icmp_eq (tgt := 18) hx hb dX12_levelBehind_11 (by decide) (fun cc => ?_) (fun cc => ?_)
    · replace h := (if_pos cc).symm.trans h
      refine lv_iconst (v := (4 : Int32)) hx hb dX12_levelBehind_18 (by decide) ?_
      refine lv_aload_n hx hb dX12_levelBehind_19 rfl (lv_at hl 0 rfl) ?_
      refine lv_iload_n hx hb dX12_levelBehind_20 rfl (lv_at hl 1 rfl) ?_
      refine lv_iconst (v := (0 : Int32)) hx hb dX12_levelBehind_21 (by decide) ?_
      obtain ⟨r2, qr2, h⟩ := ob h
      refine k_X12_of F qr2 q_1735 ⟨Nat.le_of_ble_eq_true rfl, Nat.le_of_ble_eq_true rfl, Nat.le_of_ble_eq_true rfl, Nat.le_of_ble_eq_true rfl⟩ hW hS hl.1 (Nat.le_of_ble_eq_true rfl) dX12_levelBehind_22 (fun H locs hW hS => ?_)
      refine lv_iconst (v := (1 : Int32)) hx hb dX12_levelBehind_25 (by decide) ?_
      refine lv_iadd hx hb dX12_levelBehind_26 ?_
      refine fl_min F hl.1 q_1663 q_465 q_3 mm_min (Nat.le_of_ble_eq_true rfl) (Nat.le_of_ble_eq_true rfl) (Nat.zero_le _) (Nat.zero_le _) dX12_levelBehind_27 ?_
      cases h
      exact r_int F hr hW hS dX12_levelBehind_30
    · replace h := (if_neg cc).symm.trans h
      refine lv_iconst (v := (1 : Int32)) hx hb dX12_levelBehind_14 (by decide) ?_
      refine lv_goto (tgt := 30) hx hb dX12_levelBehind_15 (by decide) ?_
      cases h
      exact r_int F hr hW hS dX12_levelBehind_30
set_option maxHeartbeats 4000000 in
set_option maxRecDepth 100000 in
theorem c_X12_levelBehind {l : Launch} {G : Gt} {b : Nat} {a1 : Int32} {a2 : Int32} {μ : Mm} {out : Int32} (h : sh_X12_levelBehind a1 a2 μ = some out) : Met l yX12_levelBehind (wU (Cond.code yX12_levelBehind cX12_levelBehind 3 (some .int))) ({ frames := 1, cells := 0, slots := 0, locals := 22 } : Room) (PcW (fg G) b μ [.ref (b + 306), .int a1, .int a2]) (QW (fg G) b μ (some (.int out))) 0 0 (fb b) :=
  met_of [.ref (b + 306), .int a1, .int a2] (by decide) (Nat.le_of_ble_eq_true rfl) (fun F hr hW hl => wk_X12_levelBehind F hr h hW va_S.rf hl)
set_option maxHeartbeats 4000000 in
set_option maxRecDepth 100000 in
theorem k_X12_levelBehind {own : String} {nL : Nat} (F : FX (fg G) b own cc nL p s m args meth c) {a1 : Int32} {a2 : Int32} {μ : Mm} {out : Int32} (h : sh_X12_levelBehind a1 a2 μ = some out) {index : Nat} (hl : Cond.methodLink own index yX12_levelBehind ∈ TBG) (hR : 1 + 1 ≤ R.frames ∧ 8 + (3 + 11) + 22 ≤ R.locals ∧ cells ≤ R.cells ∧ slots ≤ R.slots) (hW : WH (fg G) b μ H) (hS : va_S (fb b) s.heap H locs) (hsz : ls.size = nL) (hrest : (rest.map fun v => v.category).sum ≤ 8) (hdg : decode cc pc = .ok (.invokevirtual index, 3))
    (kk : ∀ (H1 : Heap) (locs1 : List Loc), WH (fg G) b μ H1 → va_S (fb b) s.heap H1 locs1 → W p l e R s m args below meth c H1 locs1 cells slots Q (F0 m (pc + 3) ls (.int out :: rest))) : W p l e R s m args below meth c H locs cells slots Q (F0 m pc ls (.int a2 :: .int a1 :: .ref (b + 306) :: rest)) :=
  f_callV (As := [.int a1, .int a2]) (ci := 12) (c_X12_levelBehind h) ⟨rfl, rfl⟩ rfl (ky_lm kyf_306 (by decide)) (wF_12 kyf_306) q_1733 qp_60 q_14 q_1734 rfl ⟨by decide +kernel, by decide +kernel, (show (parseMethodDescriptor yX12_levelBehind.desc).map (fun d => d.parameters.length) = some 2 by decide +kernel)⟩ F hl hR hW hS hsz hrest rfl hdg kk
set_option maxHeartbeats 4000000 in
set_option maxRecDepth 100000 in
theorem wk_X12_parseSection_43 {n : Nat} {x1 : Int32} {s0 : Int32} {μ : Mm} {out : Mm} (F : FX (fg G) b RX12 cX12_parseSection 3 p s m args meth c) (hr : meth.sig.returnType = none) (h : sh_X12_parseSection_43 n x1 s0 μ = some out) (hW : WH (fg G) b μ H) (hS : va_S (fb b) s.heap H locs) (hl : lv_has ls 3 [(0, .ref (b + 306)), (1, .int x1)]) : W p l e ({ frames := 7, cells := 0, slots := 0, locals := 153 } : Room) s m args below meth c H locs 0 0 (MQ below (QW (fg G) b out none) args s 0 0 (fb b)) (F0 m 43 ls [.int s0]) := by
  have hx := F.1
  have hb := F.2.1
  unfold sh_X12_parseSection_43 at h
  refine lv_istore_n (lv' := [(2, .int s0), (0, .ref (b + 306)), (1, .int x1)]) hx hb dX12_parseSection_43 rfl hl (by decide) rfl (fun ls hl => ?_)
  refine lv_aload_n hx hb dX12_parseSection_44 rfl (lv_at hl 1 rfl) ?_
  refine lv_iload_n hx hb dX12_parseSection_45 rfl (lv_at hl 2 rfl) ?_
  refine lv_iconst (v := (2 : Int32)) hx hb dX12_parseSection_46 (by decide) ?_
  refine lv_iload_n hx hb dX12_parseSection_47 rfl (lv_at hl 0 rfl) ?_
  obtain ⟨r5, qr5, h⟩ := ob h
  refine k_X12_set F qr5 q_1727 ⟨Nat.le_of_ble_eq_true rfl, Nat.le_of_ble_eq_true rfl, Nat.le_of_ble_eq_true rfl, Nat.le_of_ble_eq_true rfl⟩ hW hS hl.1 (Nat.le_of_ble_eq_true rfl) dX12_parseSection_48 (fun H locs hW hS => ?_)
  refine lv_aload_n hx hb dX12_parseSection_51 rfl (lv_at hl 1 rfl) ?_
  refine lv_iload_n hx hb dX12_parseSection_52 rfl (lv_at hl 2 rfl) ?_
  refine lv_iconst (v := (0 : Int32)) hx hb dX12_parseSection_53 (by decide) ?_
  refine lv_aload_n hx hb dX12_parseSection_54 rfl (lv_at hl 1 rfl) ?_
  refine lv_iconst (v := (1 : Int32)) hx hb dX12_parseSection_55 (by decide) ?_
  refine lv_aload_n hx hb dX12_parseSection_56 rfl (lv_at hl 1 rfl) ?_
  refine lv_iload_n hx hb dX12_parseSection_57 rfl (lv_at hl 2 rfl) ?_
  refine lv_iconst (v := (1 : Int32)) hx hb dX12_parseSection_58 (by decide) ?_
  refine lv_isub hx hb dX12_parseSection_59 ?_
  refine lv_iload_n hx hb dX12_parseSection_60 rfl (lv_at hl 0 rfl) ?_
  obtain ⟨r6, qr6, h⟩ := ob h
  refine k_X12_levelBehind F qr6 q_1731 ⟨Nat.le_of_ble_eq_true rfl, Nat.le_of_ble_eq_true rfl, Nat.le_of_ble_eq_true rfl, Nat.le_of_ble_eq_true rfl⟩ hW hS hl.1 (Nat.le_of_ble_eq_true rfl) dX12_parseSection_61 (fun H locs hW hS => ?_)
  obtain ⟨r7, qr7, h⟩ := ob h
  refine k_X12_number F qr7 q_1692 ⟨Nat.le_of_ble_eq_true rfl, Nat.le_of_ble_eq_true rfl, Nat.le_of_ble_eq_true rfl, Nat.le_of_ble_eq_true rfl⟩ hW hS hl.1 (Nat.le_of_ble_eq_true rfl) dX12_parseSection_64 (fun H locs hW hS => ?_)
  obtain ⟨r8, qr8, h⟩ := ob h
  refine k_X12_set F qr8 q_1727 ⟨Nat.le_of_ble_eq_true rfl, Nat.le_of_ble_eq_true rfl, Nat.le_of_ble_eq_true rfl, Nat.le_of_ble_eq_true rfl⟩ hW hS hl.1 (Nat.le_of_ble_eq_true rfl) dX12_parseSection_67 (fun H locs hW hS => ?_)
  refine lv_aload_n hx hb dX12_parseSection_70 rfl (lv_at hl 1 rfl) ?_
  refine lv_iload_n hx hb dX12_parseSection_71 rfl (lv_at hl 2 rfl) ?_
  refine lv_iconst (v := (1 : Int32)) hx hb dX12_parseSection_72 (by decide) ?_
  refine lv_aload_n hx hb dX12_parseSection_73 rfl (lv_at hl 1 rfl) ?_
  refine fl_ldcS (index := 206) (tx := "lines") (t := 2) (by decide +kernel) F dX12_parseSection_74 ?_
  refine lv_iconst (v := (0 : Int32)) hx hb dX12_parseSection_76 (by decide) ?_
  refine lv_sipush (v := (500 : Int32)) hx hb dX12_parseSection_77 (by decide) ?_
  obtain ⟨r9, qr9, h⟩ := ob h
  refine k_X12_numberBehind F (by decide) qr9 q_1688 ⟨Nat.le_of_ble_eq_true rfl, Nat.le_of_ble_eq_true rfl, Nat.le_of_ble_eq_true rfl, Nat.le_of_ble_eq_true rfl⟩ hW hS hl.1 (Nat.le_of_ble_eq_true rfl) dX12_parseSection_80 (fun H locs hW hS => ?_)
  obtain ⟨r10, qr10, h⟩ := ob h
  refine k_X12_set F qr10 q_1727 ⟨Nat.le_of_ble_eq_true rfl, Nat.le_of_ble_eq_true rfl, Nat.le_of_ble_eq_true rfl, Nat.le_of_ble_eq_true rfl⟩ hW hS hl.1 (Nat.le_of_ble_eq_true rfl) dX12_parseSection_83 (fun H locs hW hS => ?_)
  refine lv_aload_n hx hb dX12_parseSection_86 rfl (lv_at hl 1 rfl) ?_
  refine lv_iload_n hx hb dX12_parseSection_87 rfl (lv_at hl 2 rfl) ?_
  obtain ⟨r11, qr11, h⟩ := ob h
  refine k_X12_parseTitle F qr11 q_1739 ⟨Nat.le_of_ble_eq_true rfl, Nat.le_of_ble_eq_true rfl, Nat.le_of_ble_eq_true rfl, Nat.le_of_ble_eq_true rfl⟩ hW hS hl.1 (Nat.le_of_ble_eq_true rfl) dX12_parseSection_88 (fun H locs hW hS => ?_)
  refine lv_aload_n hx hb dX12_parseSection_91 rfl (lv_at hl 1 rfl) ?_
  refine lv_iload_n hx hb dX12_parseSection_92 rfl (lv_at hl 2 rfl) ?_
  refine lv_iconst (v := (4 : Int32)) hx hb dX12_parseSection_93 (by decide) ?_
  refine lv_iconst (v := (-1 : Int32)) hx hb dX12_parseSection_94 (by decide) ?_
  obtain ⟨r12, qr12, h⟩ := ob h
  refine k_X12_set F qr12 q_1727 ⟨Nat.le_of_ble_eq_true rfl, Nat.le_of_ble_eq_true rfl, Nat.le_of_ble_eq_true rfl, Nat.le_of_ble_eq_true rfl⟩ hW hS hl.1 (Nat.le_of_ble_eq_true rfl) dX12_parseSection_95 (fun H locs hW hS => ?_)
  refine lv_aload_n hx hb dX12_parseSection_98 rfl (lv_at hl 1 rfl) ?_
  have pf13 := nd_ky hW.2.1
  refine fl_get12 (v := .ref (b + (r12.2.2 0))) kyf_306 F hW 3 (by decide) q_1474 rfl rfl dX12_parseSection_99 ?_
  refine lv_bipush (v := (9 : Int32)) hx hb dX12_parseSection_102 (by decide) ?_
  refine lv_dup2_11 hx hb dX12_parseSection_104 rfl rfl ?_
  obtain ⟨v14, qv14, h⟩ := ob h
  refine fm_iald pf13 F hW qv14 dX12_parseSection_105 ?_
  refine lv_iconst (v := (1 : Int32)) hx hb dX12_parseSection_106 (by decide) ?_
  refine lv_iadd hx hb dX12_parseSection_107 ?_
  obtain ⟨μ15, qμ15, h⟩ := ob h
  refine fm_iast pf13 F hW hS qμ15 dX12_parseSection_108 (fun H locs hW hS => ?_)
  cases h
  exact r_void F hr hW hS dX12_parseSection_109
set_option maxHeartbeats 4000000 in
set_option maxRecDepth 100000 in
theorem wk_X12_parseSection_19 {n : Nat} {x1 : Int32} {μ : Mm} {out : Mm} (F : FX (fg G) b RX12 cX12_parseSection 3 p s m args meth c) (hr : meth.sig.returnType = none) (h : sh_X12_parseSection_19 n x1 μ = some out) (hW : WH (fg G) b μ H) (hS : va_S (fb b) s.heap H locs) (hl : lv_has ls 3 [(0, .ref (b + 306)), (1, .int x1)]) : W p l e ({ frames := 7, cells := 0, slots := 0, locals := 153 } : Room) s m args below meth c H locs 0 0 (MQ below (QW (fg G) b out none) args s 0 0 (fb b)) (F0 m 19 ls []) := by
  have hx := F.1
  have hb := F.2.1
  unfold sh_X12_parseSection_19 at h
  refine lv_aload_n hx hb dX12_parseSection_19 rfl (lv_at hl 0 rfl) ?_
  obtain ⟨r3, qr3, h⟩ := ob h
  refine k_X12_goOn F qr3 q_1683 ⟨Nat.le_of_ble_eq_true rfl, Nat.le_of_ble_eq_true rfl, Nat.le_of_ble_eq_true rfl, Nat.le_of_ble_eq_true rfl⟩ hW hS hl.1 (Nat.le_of_ble_eq_true rfl) dX12_parseSection_20 (fun H locs hW hS => ?_)
  refine lv_aload_n hx hb dX12_parseSection_23 rfl (lv_at hl 0 rfl) ?_
  obtain ⟨r4, qr4, h⟩ := ob h
  refine k_X12_good F qr4 q_1673 ⟨Nat.le_of_ble_eq_true rfl, Nat.le_of_ble_eq_true rfl, Nat.le_of_ble_eq_true rfl, Nat.le_of_ble_eq_true rfl⟩ hW hS hl.1 (Nat.le_of_ble_eq_true rfl) dX12_parseSection_24 (fun H locs hW hS => ?_)
  refine lv_if_ne (tgt := 31) hx hb dX12_parseSection_27 (by decide) (fun cc => ?_) (fun cc => ?_)
  · replace h := (if_neg cc).symm.trans h
    refine lv_aload_n hx hb dX12_parseSection_31 rfl (lv_at hl 0 rfl) ?_
    refine fl_get12 (v := .int (r3.1 306 13)) kyf_306 F hW 13 (by decide) q_1484 rfl rfl dX12_parseSection_32 ?_
    refine lv_if_eq (tgt := 42) hx hb dX12_parseSection_35 (by decide) (fun cc => ?_) (fun cc => ?_)
    · replace h := (if_pos cc).symm.trans h
      refine lv_iconst (v := (0 : Int32)) hx hb dX12_parseSection_42 (by decide) ?_
      exact wk_X12_parseSection_43 F hr h hW hS (lv_sub hl [0, 1] rfl)
    · replace h := (if_neg cc).symm.trans h
      refine lv_iconst (v := (1 : Int32)) hx hb dX12_parseSection_38 (by decide) ?_
      refine lv_goto (tgt := 43) hx hb dX12_parseSection_39 (by decide) ?_
      exact wk_X12_parseSection_43 F hr h hW hS (lv_sub hl [0, 1] rfl)
  · replace h := (if_pos cc).symm.trans h
    cases h
    exact r_void F hr hW hS dX12_parseSection_30
set_option maxHeartbeats 4000000 in
set_option maxRecDepth 100000 in
theorem wk_X12_parseSection {n : Nat} {μ : Mm} {out : Mm} (F : FX (fg G) b RX12 cX12_parseSection 3 p s m args meth c) (hr : meth.sig.returnType = none) (h : sh_X12_parseSection n  μ = some out) (hW : WH (fg G) b μ H) (hS : va_S (fb b) s.heap H locs) (hl : lv_has ls 3 [(0, .ref (b + 306))]) : W p l e ({ frames := 7, cells := 0, slots := 0, locals := 153 } : Room) s m args below meth c H locs 0 0 (MQ below (QW (fg G) b out none) args s 0 0 (fb b)) (F0 m 0 ls []) := by
  have hx := F.1
  have hb := F.2.1
  unfold sh_X12_parseSection at h
  refine lv_aload_n hx hb dX12_parseSection_0 rfl (lv_at hl 0 rfl) ?_
  have pf1 := nd_ky hW.2.1
  refine fl_get12 (v := .ref (b + (μ.2.2 0))) kyf_306 F hW 3 (by decide) q_1474 rfl rfl dX12_parseSection_1 ?_
  refine lv_bipush (v := (9 : Int32)) hx hb dX12_parseSection_4 (by decide) ?_
  obtain ⟨v2, qv2, h⟩ := ob h
  refine fm_iald pf1 F hW qv2 dX12_parseSection_6 ?_
  refine lv_istore_n (lv' := [(1, .int v2), (0, .ref (b + 306))]) hx hb dX12_parseSection_7 rfl hl (by decide) rfl (fun ls hl => ?_)
  refine lv_iload_n hx hb dX12_parseSection_8 rfl (lv_at hl 0 rfl) ?_
  refine lv_bipush (v := (24 : Int32)) hx hb dX12_parseSection_9 (by decide) ?_
  refine lv_icmp_ne (tgt := 19) hx hb dX12_parseSection_11 (by decide) (fun cc => ?_) (fun cc => ?_)
  · replace h := (if_neg cc).symm.trans h
    exact wk_X12_parseSection_19 F hr h hW hS (lv_sub hl [1, 0] rfl)
  · replace h := (if_pos cc).symm.trans h
    refine lv_aload_n hx hb dX12_parseSection_14 rfl (lv_at hl 1 rfl) ?_
    refine lv_iconst (v := (4 : Int32)) hx hb dX12_parseSection_15 (by decide) ?_
    obtain ⟨r16, qr16, h⟩ := ob h
    refine k_X12_errs F qr16 q_1679 ⟨Nat.le_of_ble_eq_true rfl, Nat.le_of_ble_eq_true rfl, Nat.le_of_ble_eq_true rfl, Nat.le_of_ble_eq_true rfl⟩ hW hS hl.1 (Nat.le_of_ble_eq_true rfl) dX12_parseSection_16 (fun H locs hW hS => ?_)
    exact wk_X12_parseSection_19 F hr h hW hS (lv_sub hl [1, 0] rfl)
set_option maxHeartbeats 4000000 in
set_option maxRecDepth 100000 in
theorem c_X12_parseSection {l : Launch} {G : Gt} {b : Nat} {n : Nat} {μ : Mm} {out : Mm} (h : sh_X12_parseSection n  μ = some out) : Met l yX12_parseSection (wU (Cond.code yX12_parseSection cX12_parseSection 3 none)) ({ frames := 7, cells := 0, slots := 0, locals := 153 } : Room) (PcW (fg G) b μ [.ref (b + 306)]) (QW (fg G) b out none) 0 0 (fb b) :=
  met_of [.ref (b + 306)] (by decide) (Nat.le_of_ble_eq_true rfl) (fun F hr hW hl => wk_X12_parseSection F hr h hW va_S.rf hl)
set_option maxHeartbeats 4000000 in
set_option maxRecDepth 100000 in
theorem k_X12_parseSection {own : String} {nL : Nat} (F : FX (fg G) b own cc nL p s m args meth c) {n : Nat} {μ : Mm} {out : Mm} (h : sh_X12_parseSection n  μ = some out) {index : Nat} (hl : Cond.methodLink own index yX12_parseSection ∈ TBG) (hR : 7 + 1 ≤ R.frames ∧ 8 + (3 + 11) + 153 ≤ R.locals ∧ cells ≤ R.cells ∧ slots ≤ R.slots) (hW : WH (fg G) b μ H) (hS : va_S (fb b) s.heap H locs) (hsz : ls.size = nL) (hrest : (rest.map fun v => v.category).sum ≤ 8) (hdg : decode cc pc = .ok (.invokevirtual index, 3))
    (kk : ∀ (H1 : Heap) (locs1 : List Loc), WH (fg G) b out H1 → va_S (fb b) s.heap H1 locs1 → W p l e R s m args below meth c H1 locs1 cells slots Q (F0 m (pc + 3) ls (rest))) : W p l e R s m args below meth c H locs cells slots Q (F0 m pc ls (.ref (b + 306) :: rest)) :=
  f_callV (As := []) (ci := 12) (c_X12_parseSection h) ⟨rfl, rfl⟩ rfl (ky_lm kyf_306 (by decide)) (wF_12 kyf_306) q_1725 qp_58 q_14 q_1726 rfl ⟨by decide +kernel, by decide +kernel, (show (parseMethodDescriptor yX12_parseSection.desc).map (fun d => d.parameters.length) = some 0 by decide +kernel)⟩ F hl hR hW hS hsz hrest rfl hdg kk
set_option maxHeartbeats 4000000 in
set_option maxRecDepth 100000 in
theorem wk_X12_parseStyle_12 {n : Nat} {μ : Mm} {out : Mm} (F : FX (fg G) b RX12 cX12_parseStyle 1 p s m args meth c) (hr : meth.sig.returnType = none) (h : sh_X12_parseStyle_12 n μ = some out) (hW : WH (fg G) b μ H) (hS : va_S (fb b) s.heap H locs) (hl : lv_has ls 1 [(0, .ref (b + 306))]) : W p l e ({ frames := 7, cells := 0, slots := 0, locals := 153 } : Room) s m args below meth c H locs 0 0 (MQ below (QW (fg G) b out none) args s 0 0 (fb b)) (F0 m 12 ls []) := by
  have hx := F.1
  have hb := F.2.1
  unfold sh_X12_parseStyle_12 at h
  refine lv_aload_n hx hb dX12_parseStyle_12 rfl (lv_at hl 0 rfl) ?_
  refine lv_iconst (v := (1 : Int32)) hx hb dX12_parseStyle_13 (by decide) ?_
  obtain ⟨μ1, hmμ1, h⟩ := ob h
  refine fl_put12_14 kyf_306 F hW hS q_1485 hmμ1 dX12_parseStyle_14 (fun H locs hW hS => ?_)
  refine lv_aload_n hx hb dX12_parseStyle_17 rfl (lv_at hl 0 rfl) ?_
  obtain ⟨r2, qr2, h⟩ := ob h
  refine k_X12_goOn F qr2 q_1683 ⟨Nat.le_of_ble_eq_true rfl, Nat.le_of_ble_eq_true rfl, Nat.le_of_ble_eq_true rfl, Nat.le_of_ble_eq_true rfl⟩ hW hS hl.1 (Nat.le_of_ble_eq_true rfl) dX12_parseStyle_18 (fun H locs hW hS => ?_)
  refine lv_aload_n hx hb dX12_parseStyle_21 rfl (lv_at hl 0 rfl) ?_
  have pf3 := nd_ky hW.2.1
  refine fl_get12 (v := .ref (b + (r2.2.2 0))) kyf_306 F hW 3 (by decide) q_1474 rfl rfl dX12_parseStyle_22 ?_
  refine lv_iconst (v := (3 : Int32)) hx hb dX12_parseStyle_25 (by decide) ?_
  refine lv_aload_n hx hb dX12_parseStyle_26 rfl (lv_at hl 0 rfl) ?_
  refine fl_ldcS (index := 218) (tx := "indent") (t := 5) (by decide +kernel) F dX12_parseStyle_27 ?_
  refine lv_iconst (v := (0 : Int32)) hx hb dX12_parseStyle_29 (by decide) ?_
  refine lv_bipush (v := (9 : Int32)) hx hb dX12_parseStyle_30 (by decide) ?_
  obtain ⟨r4, qr4, h⟩ := ob h
  refine k_X12_numberBehind F (by decide) qr4 q_1688 ⟨Nat.le_of_ble_eq_true rfl, Nat.le_of_ble_eq_true rfl, Nat.le_of_ble_eq_true rfl, Nat.le_of_ble_eq_true rfl⟩ hW hS hl.1 (Nat.le_of_ble_eq_true rfl) dX12_parseStyle_32 (fun H locs hW hS => ?_)
  obtain ⟨μ5, qμ5, h⟩ := ob h
  refine fm_iast pf3 F hW hS qμ5 dX12_parseStyle_35 (fun H locs hW hS => ?_)
  refine lv_aload_n hx hb dX12_parseStyle_36 rfl (lv_at hl 0 rfl) ?_
  have pf6 := nd_ky hW.2.1
  refine fl_get12 (v := .ref (b + (μ5.2.2 0))) kyf_306 F hW 3 (by decide) q_1474 rfl rfl dX12_parseStyle_37 ?_
  refine lv_iconst (v := (4 : Int32)) hx hb dX12_parseStyle_40 (by decide) ?_
  refine lv_aload_n hx hb dX12_parseStyle_41 rfl (lv_at hl 0 rfl) ?_
  refine fl_ldcS (index := 220) (tx := "hang") (t := 6) (by decide +kernel) F dX12_parseStyle_42 ?_
  refine lv_iconst (v := (0 : Int32)) hx hb dX12_parseStyle_44 (by decide) ?_
  refine lv_bipush (v := (9 : Int32)) hx hb dX12_parseStyle_45 (by decide) ?_
  obtain ⟨r7, qr7, h⟩ := ob h
  refine k_X12_numberBehind F (by decide) qr7 q_1688 ⟨Nat.le_of_ble_eq_true rfl, Nat.le_of_ble_eq_true rfl, Nat.le_of_ble_eq_true rfl, Nat.le_of_ble_eq_true rfl⟩ hW hS hl.1 (Nat.le_of_ble_eq_true rfl) dX12_parseStyle_47 (fun H locs hW hS => ?_)
  obtain ⟨μ8, qμ8, h⟩ := ob h
  refine fm_iast pf6 F hW hS qμ8 dX12_parseStyle_50 (fun H locs hW hS => ?_)
  refine lv_aload_n hx hb dX12_parseStyle_51 rfl (lv_at hl 0 rfl) ?_
  have pf9 := nd_ky hW.2.1
  refine fl_get12 (v := .ref (b + (μ8.2.2 0))) kyf_306 F hW 3 (by decide) q_1474 rfl rfl dX12_parseStyle_52 ?_
  refine lv_iconst (v := (5 : Int32)) hx hb dX12_parseStyle_55 (by decide) ?_
  refine lv_aload_n hx hb dX12_parseStyle_56 rfl (lv_at hl 0 rfl) ?_
  refine fl_ldcS (index := 222) (tx := "gap") (t := 7) (by decide +kernel) F dX12_parseStyle_57 ?_
  refine lv_iconst (v := (0 : Int32)) hx hb dX12_parseStyle_59 (by decide) ?_
  refine lv_bipush (v := (9 : Int32)) hx hb dX12_parseStyle_60 (by decide) ?_
  obtain ⟨r10, qr10, h⟩ := ob h
  refine k_X12_numberBehind F (by decide) qr10 q_1688 ⟨Nat.le_of_ble_eq_true rfl, Nat.le_of_ble_eq_true rfl, Nat.le_of_ble_eq_true rfl, Nat.le_of_ble_eq_true rfl⟩ hW hS hl.1 (Nat.le_of_ble_eq_true rfl) dX12_parseStyle_62 (fun H locs hW hS => ?_)
  obtain ⟨μ11, qμ11, h⟩ := ob h
  refine fm_iast pf9 F hW hS qμ11 dX12_parseStyle_65 (fun H locs hW hS => ?_)
  refine lv_aload_n hx hb dX12_parseStyle_66 rfl (lv_at hl 0 rfl) ?_
  have pf12 := nd_ky hW.2.1
  refine fl_get12 (v := .ref (b + (μ11.2.2 0))) kyf_306 F hW 3 (by decide) q_1474 rfl rfl dX12_parseStyle_67 ?_
  refine lv_bipush (v := (6 : Int32)) hx hb dX12_parseStyle_70 (by decide) ?_
  refine lv_aload_n hx hb dX12_parseStyle_72 rfl (lv_at hl 0 rfl) ?_
  refine fl_ldcS (index := 224) (tx := "dots") (t := 8) (by decide +kernel) F dX12_parseStyle_73 ?_
  refine lv_iconst (v := (0 : Int32)) hx hb dX12_parseStyle_75 (by decide) ?_
  refine lv_bipush (v := (9 : Int32)) hx hb dX12_parseStyle_76 (by decide) ?_
  obtain ⟨r13, qr13, h⟩ := ob h
  refine k_X12_numberBehind F (by decide) qr13 q_1688 ⟨Nat.le_of_ble_eq_true rfl, Nat.le_of_ble_eq_true rfl, Nat.le_of_ble_eq_true rfl, Nat.le_of_ble_eq_true rfl⟩ hW hS hl.1 (Nat.le_of_ble_eq_true rfl) dX12_parseStyle_78 (fun H locs hW hS => ?_)
  obtain ⟨μ14, qμ14, h⟩ := ob h
  refine fm_iast pf12 F hW hS qμ14 dX12_parseStyle_81 (fun H locs hW hS => ?_)
  refine lv_aload_n hx hb dX12_parseStyle_82 rfl (lv_at hl 0 rfl) ?_
  have pf15 := nd_ky hW.2.1
  refine fl_get12 (v := .ref (b + (μ14.2.2 0))) kyf_306 F hW 3 (by decide) q_1474 rfl rfl dX12_parseStyle_83 ?_
  refine lv_bipush (v := (7 : Int32)) hx hb dX12_parseStyle_86 (by decide) ?_
  refine lv_aload_n hx hb dX12_parseStyle_88 rfl (lv_at hl 0 rfl) ?_
  refine fl_ldcS (index := 226) (tx := "grid") (t := 9) (by decide +kernel) F dX12_parseStyle_89 ?_
  refine lv_iconst (v := (1 : Int32)) hx hb dX12_parseStyle_91 (by decide) ?_
  refine lv_bipush (v := (9 : Int32)) hx hb dX12_parseStyle_92 (by decide) ?_
  obtain ⟨r16, qr16, h⟩ := ob h
  refine k_X12_numberBehind F (by decide) qr16 q_1688 ⟨Nat.le_of_ble_eq_true rfl, Nat.le_of_ble_eq_true rfl, Nat.le_of_ble_eq_true rfl, Nat.le_of_ble_eq_true rfl⟩ hW hS hl.1 (Nat.le_of_ble_eq_true rfl) dX12_parseStyle_94 (fun H locs hW hS => ?_)
  obtain ⟨μ17, qμ17, h⟩ := ob h
  refine fm_iast pf15 F hW hS qμ17 dX12_parseStyle_97 (fun H locs hW hS => ?_)
  cases h
  exact r_void F hr hW hS dX12_parseStyle_98
set_option maxHeartbeats 4000000 in
set_option maxRecDepth 100000 in
theorem wk_X12_parseStyle {n : Nat} {μ : Mm} {out : Mm} (F : FX (fg G) b RX12 cX12_parseStyle 1 p s m args meth c) (hr : meth.sig.returnType = none) (h : sh_X12_parseStyle n  μ = some out) (hW : WH (fg G) b μ H) (hS : va_S (fb b) s.heap H locs) (hl : lv_has ls 1 [(0, .ref (b + 306))]) : W p l e ({ frames := 7, cells := 0, slots := 0, locals := 153 } : Room) s m args below meth c H locs 0 0 (MQ below (QW (fg G) b out none) args s 0 0 (fb b)) (F0 m 0 ls []) := by
  have hx := F.1
  have hb := F.2.1
  unfold sh_X12_parseStyle at h
  refine lv_aload_n hx hb dX12_parseStyle_0 rfl (lv_at hl 0 rfl) ?_
  refine fl_get12 (v := .int (μ.1 306 14)) kyf_306 F hW 14 (by decide) q_1485 rfl rfl dX12_parseStyle_1 ?_
  refine lv_if_eq (tgt := 12) hx hb dX12_parseStyle_4 (by decide) (fun cc => ?_) (fun cc => ?_)
  · replace h := (if_pos cc).symm.trans h
    exact wk_X12_parseStyle_12 F hr h hW hS (lv_sub hl [0] rfl)
  · replace h := (if_neg cc).symm.trans h
    refine lv_aload_n hx hb dX12_parseStyle_7 rfl (lv_at hl 0 rfl) ?_
    refine lv_iconst (v := (3 : Int32)) hx hb dX12_parseStyle_8 (by decide) ?_
    obtain ⟨r18, qr18, h⟩ := ob h
    refine k_X12_errs F qr18 q_1679 ⟨Nat.le_of_ble_eq_true rfl, Nat.le_of_ble_eq_true rfl, Nat.le_of_ble_eq_true rfl, Nat.le_of_ble_eq_true rfl⟩ hW hS hl.1 (Nat.le_of_ble_eq_true rfl) dX12_parseStyle_9 (fun H locs hW hS => ?_)
    exact wk_X12_parseStyle_12 F hr h hW hS (lv_sub hl [0] rfl)
set_option maxHeartbeats 4000000 in
set_option maxRecDepth 100000 in
theorem c_X12_parseStyle {l : Launch} {G : Gt} {b : Nat} {n : Nat} {μ : Mm} {out : Mm} (h : sh_X12_parseStyle n  μ = some out) : Met l yX12_parseStyle (wU (Cond.code yX12_parseStyle cX12_parseStyle 1 none)) ({ frames := 7, cells := 0, slots := 0, locals := 153 } : Room) (PcW (fg G) b μ [.ref (b + 306)]) (QW (fg G) b out none) 0 0 (fb b) :=
  met_of [.ref (b + 306)] (by decide) (Nat.le_of_ble_eq_true rfl) (fun F hr hW hl => wk_X12_parseStyle F hr h hW va_S.rf hl)
set_option maxHeartbeats 4000000 in
set_option maxRecDepth 100000 in
theorem k_X12_parseStyle {own : String} {nL : Nat} (F : FX (fg G) b own cc nL p s m args meth c) {n : Nat} {μ : Mm} {out : Mm} (h : sh_X12_parseStyle n  μ = some out) {index : Nat} (hl : Cond.methodLink own index yX12_parseStyle ∈ TBG) (hR : 7 + 1 ≤ R.frames ∧ 8 + (1 + 11) + 153 ≤ R.locals ∧ cells ≤ R.cells ∧ slots ≤ R.slots) (hW : WH (fg G) b μ H) (hS : va_S (fb b) s.heap H locs) (hsz : ls.size = nL) (hrest : (rest.map fun v => v.category).sum ≤ 8) (hdg : decode cc pc = .ok (.invokevirtual index, 3))
    (kk : ∀ (H1 : Heap) (locs1 : List Loc), WH (fg G) b out H1 → va_S (fb b) s.heap H1 locs1 → W p l e R s m args below meth c H1 locs1 cells slots Q (F0 m (pc + 3) ls (rest))) : W p l e R s m args below meth c H locs cells slots Q (F0 m pc ls (.ref (b + 306) :: rest)) :=
  f_callV (As := []) (ci := 12) (c_X12_parseStyle h) ⟨rfl, rfl⟩ rfl (ky_lm kyf_306 (by decide)) (wF_12 kyf_306) q_1709 qp_56 q_14 q_1710 rfl ⟨by decide +kernel, by decide +kernel, (show (parseMethodDescriptor yX12_parseStyle.desc).map (fun d => d.parameters.length) = some 0 by decide +kernel)⟩ F hl hR hW hS hsz hrest rfl hdg kk
set_option maxHeartbeats 4000000 in
set_option maxRecDepth 100000 in
theorem wk_X12_parseOnce_63 {n : Nat} {a1 : Int32} {s1 : Int32} {μ : Mm} {out : Mm} (F : FX (fg G) b RX12 cX12_parseOnce 2 p s m args meth c) (hr : meth.sig.returnType = none) (h : sh_X12_parseOnce_63 n a1 s1 μ = some out) (hW : WH (fg G) b μ H) (hS : va_S (fb b) s.heap H locs) (hl : lv_has ls 2 [(0, .ref (b + 306)), (1, .int a1)]) : W p l e ({ frames := 3, cells := 0, slots := 0, locals := 66 } : Room) s m args below meth c H locs 0 0 (MQ below (QW (fg G) b out none) args s 0 0 (fb b)) (F0 m 63 ls [.int s1, .ref (b + 306)]) := by
  have hx := F.1
  have hb := F.2.1
  unfold sh_X12_parseOnce_63 at h
  obtain ⟨μ2, hmμ2, h⟩ := ob h
  refine fl_put12_13 kyf_306 F hW hS q_1484 hmμ2 dX12_parseOnce_63 (fun H locs hW hS => ?_)
  refine lv_iload_n hx hb dX12_parseOnce_66 rfl (lv_at hl 1 rfl) ?_
  refine lv_if_eq (tgt := 78) hx hb dX12_parseOnce_67 (by decide) (fun cc => ?_) (fun cc => ?_)
  · replace h := (if_pos cc).symm.trans h
    refine lv_aload_n hx hb dX12_parseOnce_78 rfl (lv_at hl 0 rfl) ?_
    obtain ⟨r3, qr3, h⟩ := ob h
    refine k_X12_goOn F qr3 q_1683 ⟨Nat.le_of_ble_eq_true rfl, Nat.le_of_ble_eq_true rfl, Nat.le_of_ble_eq_true rfl, Nat.le_of_ble_eq_true rfl⟩ hW hS hl.1 (Nat.le_of_ble_eq_true rfl) dX12_parseOnce_79 (fun H locs hW hS => ?_)
    cases h
    exact r_void F hr hW hS dX12_parseOnce_82
  · replace h := (if_neg cc).symm.trans h
    refine lv_aload_n hx hb dX12_parseOnce_70 rfl (lv_at hl 0 rfl) ?_
    have pf4 := nd_ky hW.2.1
    refine fl_get12 (v := .ref (b + (μ2.2.2 0))) kyf_306 F hW 3 (by decide) q_1474 rfl rfl dX12_parseOnce_71 ?_
    refine lv_bipush (v := (8 : Int32)) hx hb dX12_parseOnce_74 (by decide) ?_
    refine lv_iconst (v := (1 : Int32)) hx hb dX12_parseOnce_76 (by decide) ?_
    obtain ⟨μ5, qμ5, h⟩ := ob h
    refine fm_iast pf4 F hW hS qμ5 dX12_parseOnce_77 (fun H locs hW hS => ?_)
    refine lv_aload_n hx hb dX12_parseOnce_78 rfl (lv_at hl 0 rfl) ?_
    obtain ⟨r6, qr6, h⟩ := ob h
    refine k_X12_goOn F qr6 q_1683 ⟨Nat.le_of_ble_eq_true rfl, Nat.le_of_ble_eq_true rfl, Nat.le_of_ble_eq_true rfl, Nat.le_of_ble_eq_true rfl⟩ hW hS hl.1 (Nat.le_of_ble_eq_true rfl) dX12_parseOnce_79 (fun H locs hW hS => ?_)
    cases h
    exact r_void F hr hW hS dX12_parseOnce_82
set_option maxHeartbeats 4000000 in
set_option maxRecDepth 100000 in
theorem wk_X12_parseOnce_58 {n : Nat} {a1 : Int32} {μ : Mm} {out : Mm} (F : FX (fg G) b RX12 cX12_parseOnce 2 p s m args meth c) (hr : meth.sig.returnType = none) (h : sh_X12_parseOnce_58 n a1 μ = some out) (hW : WH (fg G) b μ H) (hS : va_S (fb b) s.heap H locs) (hl : lv_has ls 2 [(0, .ref (b + 306)), (1, .int a1)]) : W p l e ({ frames := 3, cells := 0, slots := 0, locals := 66 } : Room) s m args below meth c H locs 0 0 (MQ below (QW (fg G) b out none) args s 0 0 (fb b)) (F0 m 58 ls [.ref (b + 306)]) := by
  have hx := F.1
  have hb := F.2.1
  unfold sh_X12_parseOnce_58 at h
  refine lv_iconst (v := (1 : Int32)) hx hb dX12_parseOnce_58 (by decide) ?_
  refine lv_goto (tgt := 63) hx hb dX12_parseOnce_59 (by decide) ?_
  exact wk_X12_parseOnce_63 F hr h hW hS (lv_sub hl [0, 1] rfl)
set_option maxHeartbeats 4000000 in
set_option maxRecDepth 100000 in
theorem wk_X12_parseOnce_43 {n : Nat} {a1 : Int32} {s1 : Int32} {μ : Mm} {out : Mm} (F : FX (fg G) b RX12 cX12_parseOnce 2 p s m args meth c) (hr : meth.sig.returnType = none) (h : sh_X12_parseOnce_43 n a1 s1 μ = some out) (hW : WH (fg G) b μ H) (hS : va_S (fb b) s.heap H locs) (hl : lv_has ls 2 [(0, .ref (b + 306)), (1, .int a1)]) : W p l e ({ frames := 3, cells := 0, slots := 0, locals := 66 } : Room) s m args below meth c H locs 0 0 (MQ below (QW (fg G) b out none) args s 0 0 (fb b)) (F0 m 43 ls [.int s1, .ref (b + 306)]) := by
  have hx := F.1
  have hb := F.2.1
  unfold sh_X12_parseOnce_43 at h
  obtain ⟨μ1, hmμ1, h⟩ := ob h
  refine fl_put12_15 kyf_306 F hW hS q_1486 hmμ1 dX12_parseOnce_43 (fun H locs hW hS => ?_)
  refine lv_aload_n hx hb dX12_parseOnce_46 rfl (lv_at hl 0 rfl) ?_
  refine lv_aload_n hx hb dX12_parseOnce_47 rfl (lv_at hl 0 rfl) ?_
  refine fl_get12 (v := .int (μ1.1 306 13)) kyf_306 F hW 13 (by decide) q_1484 rfl rfl dX12_parseOnce_48 ?_
  refine lv_if_ne (tgt := 58) hx hb dX12_parseOnce_51 (by decide) (fun cc => ?_) (fun cc => ?_)
  · replace h := (if_neg cc).symm.trans h
    exact wk_X12_parseOnce_58 F hr h hW hS (lv_sub hl [0, 1] rfl)
  · replace h := (if_pos cc).symm.trans h
    refine lv_iload_n hx hb dX12_parseOnce_54 rfl (lv_at hl 1 rfl) ?_
    refine lv_if_ne (tgt := 62) hx hb dX12_parseOnce_55 (by decide) (fun cc => ?_) (fun cc => ?_)
    · replace h := (if_neg cc).symm.trans h
      refine lv_iconst (v := (0 : Int32)) hx hb dX12_parseOnce_62 (by decide) ?_
      exact wk_X12_parseOnce_63 F hr h hW hS (lv_sub hl [0, 1] rfl)
    · replace h := (if_pos cc).symm.trans h
      exact wk_X12_parseOnce_58 F hr h hW hS (lv_sub hl [0, 1] rfl)
set_option maxHeartbeats 4000000 in
set_option maxRecDepth 100000 in
theorem wk_X12_parseOnce_38 {n : Nat} {a1 : Int32} {μ : Mm} {out : Mm} (F : FX (fg G) b RX12 cX12_parseOnce 2 p s m args meth c) (hr : meth.sig.returnType = none) (h : sh_X12_parseOnce_38 n a1 μ = some out) (hW : WH (fg G) b μ H) (hS : va_S (fb b) s.heap H locs) (hl : lv_has ls 2 [(0, .ref (b + 306)), (1, .int a1)]) : W p l e ({ frames := 3, cells := 0, slots := 0, locals := 66 } : Room) s m args below meth c H locs 0 0 (MQ below (QW (fg G) b out none) args s 0 0 (fb b)) (F0 m 38 ls [.ref (b + 306)]) := by
  have hx := F.1
  have hb := F.2.1
  unfold sh_X12_parseOnce_38 at h
  refine lv_iconst (v := (1 : Int32)) hx hb dX12_parseOnce_38 (by decide) ?_
  refine lv_goto (tgt := 43) hx hb dX12_parseOnce_39 (by decide) ?_
  exact wk_X12_parseOnce_43 F hr h hW hS (lv_sub hl [0, 1] rfl)
set_option maxHeartbeats 4000000 in
set_option maxRecDepth 100000 in
theorem wk_X12_parseOnce_26 {n : Nat} {a1 : Int32} {μ : Mm} {out : Mm} (F : FX (fg G) b RX12 cX12_parseOnce 2 p s m args meth c) (hr : meth.sig.returnType = none) (h : sh_X12_parseOnce_26 n a1 μ = some out) (hW : WH (fg G) b μ H) (hS : va_S (fb b) s.heap H locs) (hl : lv_has ls 2 [(0, .ref (b + 306)), (1, .int a1)]) : W p l e ({ frames := 3, cells := 0, slots := 0, locals := 66 } : Room) s m args below meth c H locs 0 0 (MQ below (QW (fg G) b out none) args s 0 0 (fb b)) (F0 m 26 ls []) := by
  have hx := F.1
  have hb := F.2.1
  unfold sh_X12_parseOnce_26 at h
  refine lv_aload_n hx hb dX12_parseOnce_26 rfl (lv_at hl 0 rfl) ?_
  refine lv_aload_n hx hb dX12_parseOnce_27 rfl (lv_at hl 0 rfl) ?_
  refine fl_get12 (v := .int (μ.1 306 15)) kyf_306 F hW 15 (by decide) q_1486 rfl rfl dX12_parseOnce_28 ?_
  refine lv_if_ne (tgt := 38) hx hb dX12_parseOnce_31 (by decide) (fun cc => ?_) (fun cc => ?_)
  · replace h := (if_neg cc).symm.trans h
    exact wk_X12_parseOnce_38 F hr h hW hS (lv_sub hl [0, 1] rfl)
  · replace h := (if_pos cc).symm.trans h
    refine lv_iload_n hx hb dX12_parseOnce_34 rfl (lv_at hl 1 rfl) ?_
    refine lv_if_eq (tgt := 42) hx hb dX12_parseOnce_35 (by decide) (fun cc => ?_) (fun cc => ?_)
    · replace h := (if_pos cc).symm.trans h
      refine lv_iconst (v := (0 : Int32)) hx hb dX12_parseOnce_42 (by decide) ?_
      exact wk_X12_parseOnce_43 F hr h hW hS (lv_sub hl [0, 1] rfl)
    · replace h := (if_neg cc).symm.trans h
      exact wk_X12_parseOnce_38 F hr h hW hS (lv_sub hl [0, 1] rfl)
set_option maxHeartbeats 4000000 in
set_option maxRecDepth 100000 in
theorem wk_X12_parseOnce_21 {n : Nat} {a1 : Int32} {μ : Mm} {out : Mm} (F : FX (fg G) b RX12 cX12_parseOnce 2 p s m args meth c) (hr : meth.sig.returnType = none) (h : sh_X12_parseOnce_21 n a1 μ = some out) (hW : WH (fg G) b μ H) (hS : va_S (fb b) s.heap H locs) (hl : lv_has ls 2 [(0, .ref (b + 306)), (1, .int a1)]) : W p l e ({ frames := 3, cells := 0, slots := 0, locals := 66 } : Room) s m args below meth c H locs 0 0 (MQ below (QW (fg G) b out none) args s 0 0 (fb b)) (F0 m 21 ls []) := by
  have hx := F.1
  have hb := F.2.1
  unfold sh_X12_parseOnce_21 at h
  refine lv_aload_n hx hb dX12_parseOnce_21 rfl (lv_at hl 0 rfl) ?_
  refine lv_iconst (v := (3 : Int32)) hx hb dX12_parseOnce_22 (by decide) ?_
  obtain ⟨r7, qr7, h⟩ := ob h
  refine k_X12_errs F qr7 q_1679 ⟨Nat.le_of_ble_eq_true rfl, Nat.le_of_ble_eq_true rfl, Nat.le_of_ble_eq_true rfl, Nat.le_of_ble_eq_true rfl⟩ hW hS hl.1 (Nat.le_of_ble_eq_true rfl) dX12_parseOnce_23 (fun H locs hW hS => ?_)
  exact wk_X12_parseOnce_26 F hr h hW hS (lv_sub hl [0, 1] rfl)
set_option maxHeartbeats 4000000 in
set_option maxRecDepth 100000 in
theorem wk_X12_parseOnce {n : Nat} {a1 : Int32} {μ : Mm} {out : Mm} (F : FX (fg G) b RX12 cX12_parseOnce 2 p s m args meth c) (hr : meth.sig.returnType = none) (h : sh_X12_parseOnce n a1 μ = some out) (hW : WH (fg G) b μ H) (hS : va_S (fb b) s.heap H locs) (hl : lv_has ls 2 [(0, .ref (b + 306)), (1, .int a1)]) : W p l e ({ frames := 3, cells := 0, slots := 0, locals := 66 } : Room) s m args below meth c H locs 0 0 (MQ below (QW (fg G) b out none) args s 0 0 (fb b)) (F0 m 0 ls []) := by
  have hx := F.1
  have hb := F.2.1
  unfold sh_X12_parseOnce at h
  refine lv_iload_n hx hb dX12_parseOnce_0 rfl (lv_at hl 1 rfl) ?_
  refine lv_if_eq (tgt := 14) hx hb dX12_parseOnce_1 (by decide) (fun cc => ?_) (fun cc => ?_)
  · replace h := (if_pos cc).symm.trans h
    refine lv_aload_n hx hb dX12_parseOnce_14 rfl (lv_at hl 0 rfl) ?_
    refine fl_get12 (v := .int (μ.1 306 13)) kyf_306 F hW 13 (by decide) q_1484 rfl rfl dX12_parseOnce_15 ?_
    refine lv_if_eq (tgt := 26) hx hb dX12_parseOnce_18 (by decide) (fun cc => ?_) (fun cc => ?_)
    · replace h := (if_pos cc).symm.trans h
      exact wk_X12_parseOnce_26 F hr h hW hS (lv_sub hl [0, 1] rfl)
    · replace h := (if_neg cc).symm.trans h
      exact wk_X12_parseOnce_21 F hr h hW hS (lv_sub hl [0, 1] rfl)
  · replace h := (if_neg cc).symm.trans h
    refine lv_aload_n hx hb dX12_parseOnce_4 rfl (lv_at hl 0 rfl) ?_
    refine fl_get12 (v := .int (μ.1 306 15)) kyf_306 F hW 15 (by decide) q_1486 rfl rfl dX12_parseOnce_5 ?_
    refine lv_if_eq (tgt := 26) hx hb dX12_parseOnce_8 (by decide) (fun cc => ?_) (fun cc => ?_)
    · replace h := (if_pos cc).symm.trans h
      exact wk_X12_parseOnce_26 F hr h hW hS (lv_sub hl [0, 1] rfl)
    · replace h := (if_neg cc).symm.trans h
      refine lv_goto (tgt := 21) hx hb dX12_parseOnce_11 (by decide) ?_
      exact wk_X12_parseOnce_21 F hr h hW hS (lv_sub hl [0, 1] rfl)
set_option maxHeartbeats 4000000 in
set_option maxRecDepth 100000 in
theorem c_X12_parseOnce {l : Launch} {G : Gt} {b : Nat} {n : Nat} {a1 : Int32} {μ : Mm} {out : Mm} (h : sh_X12_parseOnce n a1 μ = some out) : Met l yX12_parseOnce (wU (Cond.code yX12_parseOnce cX12_parseOnce 2 none)) ({ frames := 3, cells := 0, slots := 0, locals := 66 } : Room) (PcW (fg G) b μ [.ref (b + 306), .int a1]) (QW (fg G) b out none) 0 0 (fb b) :=
  met_of [.ref (b + 306), .int a1] (by decide) (Nat.le_of_ble_eq_true rfl) (fun F hr hW hl => wk_X12_parseOnce F hr h hW va_S.rf hl)
set_option maxHeartbeats 4000000 in
set_option maxRecDepth 100000 in
theorem k_X12_parseOnce {own : String} {nL : Nat} (F : FX (fg G) b own cc nL p s m args meth c) {n : Nat} {a1 : Int32} {μ : Mm} {out : Mm} (h : sh_X12_parseOnce n a1 μ = some out) {index : Nat} (hl : Cond.methodLink own index yX12_parseOnce ∈ TBG) (hR : 3 + 1 ≤ R.frames ∧ 8 + (2 + 11) + 66 ≤ R.locals ∧ cells ≤ R.cells ∧ slots ≤ R.slots) (hW : WH (fg G) b μ H) (hS : va_S (fb b) s.heap H locs) (hsz : ls.size = nL) (hrest : (rest.map fun v => v.category).sum ≤ 8) (hdg : decode cc pc = .ok (.invokevirtual index, 3))
    (kk : ∀ (H1 : Heap) (locs1 : List Loc), WH (fg G) b out H1 → va_S (fb b) s.heap H1 locs1 → W p l e R s m args below meth c H1 locs1 cells slots Q (F0 m (pc + 3) ls (rest))) : W p l e R s m args below meth c H locs cells slots Q (F0 m pc ls (.int a1 :: .ref (b + 306) :: rest)) :=
  f_callV (As := [.int a1]) (ci := 12) (c_X12_parseOnce h) ⟨rfl, rfl⟩ rfl (ky_lm kyf_306 (by decide)) (wF_12 kyf_306) q_1719 qp_57 q_14 q_1720 rfl ⟨by decide +kernel, by decide +kernel, (show (parseMethodDescriptor yX12_parseOnce.desc).map (fun d => d.parameters.length) = some 1 by decide +kernel)⟩ F hl hR hW hS hsz hrest rfl hdg kk
set_option maxHeartbeats 4000000 in
set_option maxRecDepth 100000 in
theorem wk_X12_parseStatement {n : Nat} {μ : Mm} {out : Mm} (F : FX (fg G) b RX12 cX12_parseStatement 1 p s m args meth c) (hr : meth.sig.returnType = none) (h : sh_X12_parseStatement n  μ = some out) (hW : WH (fg G) b μ H) (hS : va_S (fb b) s.heap H locs) (hl : lv_has ls 1 [(0, .ref (b + 306))]) : W p l e ({ frames := 8, cells := 0, slots := 0, locals := 175 } : Room) s m args below meth c H locs 0 0 (MQ below (QW (fg G) b out none) args s 0 0 (fb b)) (F0 m 0 ls []) := by
  have hx := F.1
  have hb := F.2.1
  unfold sh_X12_parseStatement at h
  refine lv_aload_n hx hb dX12_parseStatement_0 rfl (lv_at hl 0 rfl) ?_
  refine fl_ldcS (index := 231) (tx := "style") (t := 4) (by decide +kernel) F dX12_parseStatement_1 ?_
  obtain ⟨r1, qr1, h⟩ := ob h
  refine k_X12_isText F (by decide) qr1 q_1669 ⟨Nat.le_of_ble_eq_true rfl, Nat.le_of_ble_eq_true rfl, Nat.le_of_ble_eq_true rfl, Nat.le_of_ble_eq_true rfl⟩ hW hS hl.1 (Nat.le_of_ble_eq_true rfl) dX12_parseStatement_3 (fun H locs hW hS => ?_)
  refine lv_if_eq (tgt := 16) hx hb dX12_parseStatement_6 (by decide) (fun cc => ?_) (fun cc => ?_)
  · replace h := (if_pos cc).symm.trans h
    refine lv_aload_n hx hb dX12_parseStatement_16 rfl (lv_at hl 0 rfl) ?_
    refine fl_ldcS (index := 236) (tx := "right") (t := 10) (by decide +kernel) F dX12_parseStatement_17 ?_
    obtain ⟨r2, qr2, h⟩ := ob h
    refine k_X12_isText F (by decide) qr2 q_1669 ⟨Nat.le_of_ble_eq_true rfl, Nat.le_of_ble_eq_true rfl, Nat.le_of_ble_eq_true rfl, Nat.le_of_ble_eq_true rfl⟩ hW hS hl.1 (Nat.le_of_ble_eq_true rfl) dX12_parseStatement_19 (fun H locs hW hS => ?_)
    refine lv_if_eq (tgt := 33) hx hb dX12_parseStatement_22 (by decide) (fun cc => ?_) (fun cc => ?_)
    · replace h := (if_pos cc).symm.trans h
      refine lv_aload_n hx hb dX12_parseStatement_33 rfl (lv_at hl 0 rfl) ?_
      refine fl_ldcS (index := 242) (tx := "main") (t := 11) (by decide +kernel) F dX12_parseStatement_34 ?_
      obtain ⟨r3, qr3, h⟩ := ob h
      refine k_X12_isText F (by decide) qr3 q_1669 ⟨Nat.le_of_ble_eq_true rfl, Nat.le_of_ble_eq_true rfl, Nat.le_of_ble_eq_true rfl, Nat.le_of_ble_eq_true rfl⟩ hW hS hl.1 (Nat.le_of_ble_eq_true rfl) dX12_parseStatement_36 (fun H locs hW hS => ?_)
      refine lv_if_eq (tgt := 50) hx hb dX12_parseStatement_39 (by decide) (fun cc => ?_) (fun cc => ?_)
      · replace h := (if_pos cc).symm.trans h
        refine lv_aload_n hx hb dX12_parseStatement_50 rfl (lv_at hl 0 rfl) ?_
        refine fl_ldcS (index := 244) (tx := "section") (t := 12) (by decide +kernel) F dX12_parseStatement_51 ?_
        obtain ⟨r4, qr4, h⟩ := ob h
        refine k_X12_isText F (by decide) qr4 q_1669 ⟨Nat.le_of_ble_eq_true rfl, Nat.le_of_ble_eq_true rfl, Nat.le_of_ble_eq_true rfl, Nat.le_of_ble_eq_true rfl⟩ hW hS hl.1 (Nat.le_of_ble_eq_true rfl) dX12_parseStatement_53 (fun H locs hW hS => ?_)
        refine lv_if_eq (tgt := 66) hx hb dX12_parseStatement_56 (by decide) (fun cc => ?_) (fun cc => ?_)
        · replace h := (if_pos cc).symm.trans h
          refine lv_aload_n hx hb dX12_parseStatement_66 rfl (lv_at hl 0 rfl) ?_
          refine lv_iconst (v := (1 : Int32)) hx hb dX12_parseStatement_67 (by decide) ?_
          obtain ⟨r5, qr5, h⟩ := ob h
          refine k_X12_errs F qr5 q_1679 ⟨Nat.le_of_ble_eq_true rfl, Nat.le_of_ble_eq_true rfl, Nat.le_of_ble_eq_true rfl, Nat.le_of_ble_eq_true rfl⟩ hW hS hl.1 (Nat.le_of_ble_eq_true rfl) dX12_parseStatement_68 (fun H locs hW hS => ?_)
          refine lv_aload_n hx hb dX12_parseStatement_71 rfl (lv_at hl 0 rfl) ?_
          obtain ⟨r6, qr6, h⟩ := ob h
          refine k_X12_semicolon F qr6 q_1698 ⟨Nat.le_of_ble_eq_true rfl, Nat.le_of_ble_eq_true rfl, Nat.le_of_ble_eq_true rfl, Nat.le_of_ble_eq_true rfl⟩ hW hS hl.1 (Nat.le_of_ble_eq_true rfl) dX12_parseStatement_72 (fun H locs hW hS => ?_)
          cases h
          exact r_void F hr hW hS dX12_parseStatement_75
        · replace h := (if_neg cc).symm.trans h
          refine lv_aload_n hx hb dX12_parseStatement_59 rfl (lv_at hl 0 rfl) ?_
          obtain ⟨r7, qr7, h⟩ := ob h
          refine k_X12_parseSection F qr7 q_1723 ⟨Nat.le_of_ble_eq_true rfl, Nat.le_of_ble_eq_true rfl, Nat.le_of_ble_eq_true rfl, Nat.le_of_ble_eq_true rfl⟩ hW hS hl.1 (Nat.le_of_ble_eq_true rfl) dX12_parseStatement_60 (fun H locs hW hS => ?_)
          refine lv_goto (tgt := 71) hx hb dX12_parseStatement_63 (by decide) ?_
          refine lv_aload_n hx hb dX12_parseStatement_71 rfl (lv_at hl 0 rfl) ?_
          obtain ⟨r8, qr8, h⟩ := ob h
          refine k_X12_semicolon F qr8 q_1698 ⟨Nat.le_of_ble_eq_true rfl, Nat.le_of_ble_eq_true rfl, Nat.le_of_ble_eq_true rfl, Nat.le_of_ble_eq_true rfl⟩ hW hS hl.1 (Nat.le_of_ble_eq_true rfl) dX12_parseStatement_72 (fun H locs hW hS => ?_)
          cases h
          exact r_void F hr hW hS dX12_parseStatement_75
      · replace h := (if_neg cc).symm.trans h
        refine lv_aload_n hx hb dX12_parseStatement_42 rfl (lv_at hl 0 rfl) ?_
        refine lv_iconst (v := (0 : Int32)) hx hb dX12_parseStatement_43 (by decide) ?_
        obtain ⟨r9, qr9, h⟩ := ob h
        refine k_X12_parseOnce F qr9 q_1717 ⟨Nat.le_of_ble_eq_true rfl, Nat.le_of_ble_eq_true rfl, Nat.le_of_ble_eq_true rfl, Nat.le_of_ble_eq_true rfl⟩ hW hS hl.1 (Nat.le_of_ble_eq_true rfl) dX12_parseStatement_44 (fun H locs hW hS => ?_)
        refine lv_goto (tgt := 71) hx hb dX12_parseStatement_47 (by decide) ?_
        refine lv_aload_n hx hb dX12_parseStatement_71 rfl (lv_at hl 0 rfl) ?_
        obtain ⟨r10, qr10, h⟩ := ob h
        refine k_X12_semicolon F qr10 q_1698 ⟨Nat.le_of_ble_eq_true rfl, Nat.le_of_ble_eq_true rfl, Nat.le_of_ble_eq_true rfl, Nat.le_of_ble_eq_true rfl⟩ hW hS hl.1 (Nat.le_of_ble_eq_true rfl) dX12_parseStatement_72 (fun H locs hW hS => ?_)
        cases h
        exact r_void F hr hW hS dX12_parseStatement_75
    · replace h := (if_neg cc).symm.trans h
      refine lv_aload_n hx hb dX12_parseStatement_25 rfl (lv_at hl 0 rfl) ?_
      refine lv_iconst (v := (1 : Int32)) hx hb dX12_parseStatement_26 (by decide) ?_
      obtain ⟨r11, qr11, h⟩ := ob h
      refine k_X12_parseOnce F qr11 q_1717 ⟨Nat.le_of_ble_eq_true rfl, Nat.le_of_ble_eq_true rfl, Nat.le_of_ble_eq_true rfl, Nat.le_of_ble_eq_true rfl⟩ hW hS hl.1 (Nat.le_of_ble_eq_true rfl) dX12_parseStatement_27 (fun H locs hW hS => ?_)
      refine lv_goto (tgt := 71) hx hb dX12_parseStatement_30 (by decide) ?_
      refine lv_aload_n hx hb dX12_parseStatement_71 rfl (lv_at hl 0 rfl) ?_
      obtain ⟨r12, qr12, h⟩ := ob h
      refine k_X12_semicolon F qr12 q_1698 ⟨Nat.le_of_ble_eq_true rfl, Nat.le_of_ble_eq_true rfl, Nat.le_of_ble_eq_true rfl, Nat.le_of_ble_eq_true rfl⟩ hW hS hl.1 (Nat.le_of_ble_eq_true rfl) dX12_parseStatement_72 (fun H locs hW hS => ?_)
      cases h
      exact r_void F hr hW hS dX12_parseStatement_75
  · replace h := (if_neg cc).symm.trans h
    refine lv_aload_n hx hb dX12_parseStatement_9 rfl (lv_at hl 0 rfl) ?_
    obtain ⟨r13, qr13, h⟩ := ob h
    refine k_X12_parseStyle F qr13 q_1707 ⟨Nat.le_of_ble_eq_true rfl, Nat.le_of_ble_eq_true rfl, Nat.le_of_ble_eq_true rfl, Nat.le_of_ble_eq_true rfl⟩ hW hS hl.1 (Nat.le_of_ble_eq_true rfl) dX12_parseStatement_10 (fun H locs hW hS => ?_)
    refine lv_goto (tgt := 71) hx hb dX12_parseStatement_13 (by decide) ?_
    refine lv_aload_n hx hb dX12_parseStatement_71 rfl (lv_at hl 0 rfl) ?_
    obtain ⟨r14, qr14, h⟩ := ob h
    refine k_X12_semicolon F qr14 q_1698 ⟨Nat.le_of_ble_eq_true rfl, Nat.le_of_ble_eq_true rfl, Nat.le_of_ble_eq_true rfl, Nat.le_of_ble_eq_true rfl⟩ hW hS hl.1 (Nat.le_of_ble_eq_true rfl) dX12_parseStatement_72 (fun H locs hW hS => ?_)
    cases h
    exact r_void F hr hW hS dX12_parseStatement_75
set_option maxHeartbeats 4000000 in
set_option maxRecDepth 100000 in
theorem c_X12_parseStatement {l : Launch} {G : Gt} {b : Nat} {n : Nat} {μ : Mm} {out : Mm} (h : sh_X12_parseStatement n  μ = some out) : Met l yX12_parseStatement (wU (Cond.code yX12_parseStatement cX12_parseStatement 1 none)) ({ frames := 8, cells := 0, slots := 0, locals := 175 } : Room) (PcW (fg G) b μ [.ref (b + 306)]) (QW (fg G) b out none) 0 0 (fb b) :=
  met_of [.ref (b + 306)] (by decide) (Nat.le_of_ble_eq_true rfl) (fun F hr hW hl => wk_X12_parseStatement F hr h hW va_S.rf hl)
set_option maxHeartbeats 4000000 in
set_option maxRecDepth 100000 in
theorem k_X12_parseStatement {own : String} {nL : Nat} (F : FX (fg G) b own cc nL p s m args meth c) {n : Nat} {μ : Mm} {out : Mm} (h : sh_X12_parseStatement n  μ = some out) {index : Nat} (hl : Cond.methodLink own index yX12_parseStatement ∈ TBG) (hR : 8 + 1 ≤ R.frames ∧ 8 + (1 + 11) + 175 ≤ R.locals ∧ cells ≤ R.cells ∧ slots ≤ R.slots) (hW : WH (fg G) b μ H) (hS : va_S (fb b) s.heap H locs) (hsz : ls.size = nL) (hrest : (rest.map fun v => v.category).sum ≤ 8) (hdg : decode cc pc = .ok (.invokevirtual index, 3))
    (kk : ∀ (H1 : Heap) (locs1 : List Loc), WH (fg G) b out H1 → va_S (fb b) s.heap H1 locs1 → W p l e R s m args below meth c H1 locs1 cells slots Q (F0 m (pc + 3) ls (rest))) : W p l e R s m args below meth c H locs cells slots Q (F0 m pc ls (.ref (b + 306) :: rest)) :=
  f_callV (As := []) (ci := 12) (c_X12_parseStatement h) ⟨rfl, rfl⟩ rfl (ky_lm kyf_306 (by decide)) (wF_12 kyf_306) q_1704 qp_55 q_14 q_1705 rfl ⟨by decide +kernel, by decide +kernel, (show (parseMethodDescriptor yX12_parseStatement.desc).map (fun d => d.parameters.length) = some 0 by decide +kernel)⟩ F hl hR hW hS hsz hrest rfl hdg kk
set_option maxHeartbeats 4000000 in
set_option maxRecDepth 100000 in
theorem wk_X12_remember_53 {n : Nat} {out : Mm} (F : FX (fg G) b RX12 cX12_remember 2 p s m args meth c) (hr : meth.sig.returnType = none) : ∀ (f : Nat) (x1 : Int32) (μ : Mm) (H : Heap) (locs : List Loc) (ls : Array Slot), sh_X12_remember_53 n f x1 μ = some out → WH (fg G) b μ H → va_S (fb b) s.heap H locs → lv_has ls 2 [(0, .ref (b + 306)), (1, .int x1)] → W p l e ({ frames := 0, cells := 0, slots := 0, locals := 0 } : Room) s m args below meth c H locs 0 0 (MQ below (QW (fg G) b out none) args s 0 0 (fb b)) (F0 m 53 ls []) := by
  have hx := F.1
  have hb := F.2.1
  intro f
  induction f with
  | zero =>
    intro _ _ _ _ _ h
    rw [sh_X12_remember_53] at h
    cases h
  | succ f ih =>
    intro x1 μ H locs ls h hW hS hl
    rw [sh_X12_remember_53] at h
    have hk53 := ih
    refine lv_iload_n hx hb dX12_remember_53 rfl (lv_at hl 1 rfl) ?_
    refine lv_sipush (v := (18701 : Int32)) hx hb dX12_remember_54 (by decide) ?_
    refine lv_icmp_ge (tgt := 87) hx hb dX12_remember_57 (by decide) (fun cc => ?_) (fun cc => ?_)
    · replace h := (if_pos cc).symm.trans h
      refine lv_aload_n hx hb dX12_remember_87 rfl (lv_at hl 0 rfl) ?_
      refine lv_dup hx hb dX12_remember_88 rfl ?_
      refine fl_get12 (v := .int (μ.1 306 47)) kyf_306 F hW 47 (by decide) q_1518 rfl rfl dX12_remember_89 ?_
      refine lv_iconst (v := (1 : Int32)) hx hb dX12_remember_92 (by decide) ?_
      refine lv_iadd hx hb dX12_remember_93 ?_
      obtain ⟨μ1, hmμ1, h⟩ := ob h
      refine fl_put12_47 kyf_306 F hW hS q_1518 hmμ1 dX12_remember_94 (fun H locs hW hS => ?_)
      cases h
      exact r_void F hr hW hS dX12_remember_97
    · replace h := (if_neg cc).symm.trans h
      refine lv_aload_n hx hb dX12_remember_60 rfl (lv_at hl 0 rfl) ?_
      refine fl_get12 (v := .ref (b + 329)) kyf_306 F hW 46 (by decide) q_1517 rfl rfl dX12_remember_61 ?_
      refine lv_sipush (v := (18701 : Int32)) hx hb dX12_remember_64 (by decide) ?_
      refine lv_aload_n hx hb dX12_remember_67 rfl (lv_at hl 0 rfl) ?_
      refine fl_get12 (v := .int (μ.1 306 47)) kyf_306 F hW 47 (by decide) q_1518 rfl rfl dX12_remember_68 ?_
      refine lv_imul hx hb dX12_remember_71 ?_
      refine lv_iload_n hx hb dX12_remember_72 rfl (lv_at hl 1 rfl) ?_
      refine lv_iadd hx hb dX12_remember_73 ?_
      refine lv_aload_n hx hb dX12_remember_74 rfl (lv_at hl 0 rfl) ?_
      refine fl_get12 (v := .ref (b + 307)) kyf_306 F hW 1 (by decide) q_1472 rfl rfl dX12_remember_75 ?_
      refine lv_iload_n hx hb dX12_remember_78 rfl (lv_at hl 1 rfl) ?_
      obtain ⟨v2, qv2, h⟩ := ob h
      refine fm_iald kyf_307 F hW qv2 dX12_remember_79 ?_
      obtain ⟨μ3, qμ3, h⟩ := ob h
      refine fm_iast kyf_329 F hW hS qμ3 dX12_remember_80 (fun H locs hW hS => ?_)
      refine lv_iinc (v := (x1 + (1 : Int32))) (lv' := [(1, .int (x1 + (1 : Int32))), (0, .ref (b + 306))]) hx hb dX12_remember_81 hl (k := 1) rfl rfl (by decide) rfl (fun ls hl => ?_)
      refine lv_goto (tgt := 53) hx hb dX12_remember_84 (by decide) ?_
      exact hk53 _ _ _ _ _ h hW hS (lv_sub hl [1, 0] rfl)
set_option maxHeartbeats 4000000 in
set_option maxRecDepth 100000 in
theorem wk_X12_remember_13 {n : Nat} {out : Mm} (F : FX (fg G) b RX12 cX12_remember 2 p s m args meth c) (hr : meth.sig.returnType = none) : ∀ (f : Nat) (x1 : Int32) (μ : Mm) (H : Heap) (locs : List Loc) (ls : Array Slot), sh_X12_remember_13 n f x1 μ = some out → WH (fg G) b μ H → va_S (fb b) s.heap H locs → lv_has ls 2 [(0, .ref (b + 306)), (1, .int x1)] → W p l e ({ frames := 0, cells := 0, slots := 0, locals := 0 } : Room) s m args below meth c H locs 0 0 (MQ below (QW (fg G) b out none) args s 0 0 (fb b)) (F0 m 13 ls []) := by
  have hx := F.1
  have hb := F.2.1
  intro f
  induction f with
  | zero =>
    intro _ _ _ _ _ h
    rw [sh_X12_remember_13] at h
    cases h
  | succ f ih =>
    intro x1 μ H locs ls h hW hS hl
    rw [sh_X12_remember_13] at h
    have hk13 := ih
    refine lv_iload_n hx hb dX12_remember_13 rfl (lv_at hl 1 rfl) ?_
    refine lv_ldc hx hb F.2.2.2.1 (F.2.2.2.2.1 _ q_1467) dX12_remember_14 ?_
    refine lv_icmp_ge (tgt := 41) hx hb dX12_remember_16 (by decide) (fun cc => ?_) (fun cc => ?_)
    · replace h := (if_pos cc).symm.trans h
      refine lv_aload_n hx hb dX12_remember_41 rfl (lv_at hl 0 rfl) ?_
      refine lv_dup hx hb dX12_remember_42 rfl ?_
      refine fl_get12 (v := .int (μ.1 306 47)) kyf_306 F hW 47 (by decide) q_1518 rfl rfl dX12_remember_43 ?_
      refine lv_iconst (v := (1 : Int32)) hx hb dX12_remember_46 (by decide) ?_
      refine lv_isub hx hb dX12_remember_47 ?_
      obtain ⟨μ4, hmμ4, h⟩ := ob h
      refine fl_put12_47 kyf_306 F hW hS q_1518 hmμ4 dX12_remember_48 (fun H locs hW hS => ?_)
      refine lv_iconst (v := (0 : Int32)) hx hb dX12_remember_51 (by decide) ?_
      refine lv_istore_n (lv' := [(1, .int (0 : Int32)), (0, .ref (b + 306))]) hx hb dX12_remember_52 rfl hl (by decide) rfl (fun ls hl => ?_)
      exact wk_X12_remember_53 F hr n _ _ _ _ _ h hW hS (lv_sub hl [1, 0] rfl)
    · replace h := (if_neg cc).symm.trans h
      refine lv_aload_n hx hb dX12_remember_19 rfl (lv_at hl 0 rfl) ?_
      refine fl_get12 (v := .ref (b + 329)) kyf_306 F hW 46 (by decide) q_1517 rfl rfl dX12_remember_20 ?_
      refine lv_iload_n hx hb dX12_remember_23 rfl (lv_at hl 1 rfl) ?_
      refine lv_sipush (v := (18701 : Int32)) hx hb dX12_remember_24 (by decide) ?_
      refine lv_isub hx hb dX12_remember_27 ?_
      refine lv_aload_n hx hb dX12_remember_28 rfl (lv_at hl 0 rfl) ?_
      refine fl_get12 (v := .ref (b + 329)) kyf_306 F hW 46 (by decide) q_1517 rfl rfl dX12_remember_29 ?_
      refine lv_iload_n hx hb dX12_remember_32 rfl (lv_at hl 1 rfl) ?_
      obtain ⟨v5, qv5, h⟩ := ob h
      refine fm_iald kyf_329 F hW qv5 dX12_remember_33 ?_
      obtain ⟨μ6, qμ6, h⟩ := ob h
      refine fm_iast kyf_329 F hW hS qμ6 dX12_remember_34 (fun H locs hW hS => ?_)
      refine lv_iinc (v := (x1 + (1 : Int32))) (lv' := [(1, .int (x1 + (1 : Int32))), (0, .ref (b + 306))]) hx hb dX12_remember_35 hl (k := 1) rfl rfl (by decide) rfl (fun ls hl => ?_)
      refine lv_goto (tgt := 13) hx hb dX12_remember_38 (by decide) ?_
      exact hk13 _ _ _ _ _ h hW hS (lv_sub hl [1, 0] rfl)
set_option maxHeartbeats 4000000 in
set_option maxRecDepth 100000 in
theorem wk_X12_remember {n : Nat} {μ : Mm} {out : Mm} (F : FX (fg G) b RX12 cX12_remember 2 p s m args meth c) (hr : meth.sig.returnType = none) (h : sh_X12_remember n  μ = some out) (hW : WH (fg G) b μ H) (hS : va_S (fb b) s.heap H locs) (hl : lv_has ls 2 [(0, .ref (b + 306))]) : W p l e ({ frames := 0, cells := 0, slots := 0, locals := 0 } : Room) s m args below meth c H locs 0 0 (MQ below (QW (fg G) b out none) args s 0 0 (fb b)) (F0 m 0 ls []) := by
  have hx := F.1
  have hb := F.2.1
  unfold sh_X12_remember at h
  refine lv_aload_n hx hb dX12_remember_0 rfl (lv_at hl 0 rfl) ?_
  refine fl_get12 (v := .int (μ.1 306 47)) kyf_306 F hW 47 (by decide) q_1518 rfl rfl dX12_remember_1 ?_
  refine lv_bipush (v := (6 : Int32)) hx hb dX12_remember_4 (by decide) ?_
  refine lv_icmp_ne (tgt := 51) hx hb dX12_remember_6 (by decide) (fun cc => ?_) (fun cc => ?_)
  · replace h := (if_neg cc).symm.trans h
    refine lv_iconst (v := (0 : Int32)) hx hb dX12_remember_51 (by decide) ?_
    refine lv_istore_n (lv' := [(1, .int (0 : Int32)), (0, .ref (b + 306))]) hx hb dX12_remember_52 rfl hl (by decide) rfl (fun ls hl => ?_)
    exact wk_X12_remember_53 F hr n _ _ _ _ _ h hW hS (lv_sub hl [1, 0] rfl)
  · replace h := (if_pos cc).symm.trans h
    refine lv_sipush (v := (18701 : Int32)) hx hb dX12_remember_9 (by decide) ?_
    refine lv_istore_n (lv' := [(1, .int (18701 : Int32)), (0, .ref (b + 306))]) hx hb dX12_remember_12 rfl hl (by decide) rfl (fun ls hl => ?_)
    exact wk_X12_remember_13 F hr n _ _ _ _ _ h hW hS (lv_sub hl [1, 0] rfl)
set_option maxHeartbeats 4000000 in
set_option maxRecDepth 100000 in
theorem c_X12_remember {l : Launch} {G : Gt} {b : Nat} {n : Nat} {μ : Mm} {out : Mm} (h : sh_X12_remember n  μ = some out) : Met l yX12_remember (wU (Cond.code yX12_remember cX12_remember 2 none)) ({ frames := 0, cells := 0, slots := 0, locals := 0 } : Room) (PcW (fg G) b μ [.ref (b + 306)]) (QW (fg G) b out none) 0 0 (fb b) :=
  met_of [.ref (b + 306)] (by decide) (Nat.le_of_ble_eq_true rfl) (fun F hr hW hl => wk_X12_remember F hr h hW va_S.rf hl)
set_option maxHeartbeats 4000000 in
set_option maxRecDepth 100000 in
theorem k_X12_remember {own : String} {nL : Nat} (F : FX (fg G) b own cc nL p s m args meth c) {n : Nat} {μ : Mm} {out : Mm} (h : sh_X12_remember n  μ = some out) {index : Nat} (hl : Cond.methodLink own index yX12_remember ∈ TBG) (hR : 0 + 1 ≤ R.frames ∧ 8 + (2 + 11) + 0 ≤ R.locals ∧ cells ≤ R.cells ∧ slots ≤ R.slots) (hW : WH (fg G) b μ H) (hS : va_S (fb b) s.heap H locs) (hsz : ls.size = nL) (hrest : (rest.map fun v => v.category).sum ≤ 8) (hdg : decode cc pc = .ok (.invokevirtual index, 3))
    (kk : ∀ (H1 : Heap) (locs1 : List Loc), WH (fg G) b out H1 → va_S (fb b) s.heap H1 locs1 → W p l e R s m args below meth c H1 locs1 cells slots Q (F0 m (pc + 3) ls (rest))) : W p l e R s m args below meth c H locs cells slots Q (F0 m pc ls (.ref (b + 306) :: rest)) :=
  f_callV (As := []) (ci := 12) (c_X12_remember h) ⟨rfl, rfl⟩ rfl (ky_lm kyf_306 (by decide)) (wF_12 kyf_306) q_1749 qp_64 q_14 q_1750 rfl ⟨by decide +kernel, by decide +kernel, (show (parseMethodDescriptor yX12_remember.desc).map (fun d => d.parameters.length) = some 0 by decide +kernel)⟩ F hl hR hW hS hsz hrest rfl hdg kk
set_option maxHeartbeats 4000000 in
set_option maxRecDepth 100000 in
theorem wk_X12_load_191 {n : Nat} {out : (Int32 × Mm)} (F : FX (fg G) b RX12 cX12_load 2 p s m args meth c) (hr : meth.sig.returnType = some .int) : ∀ (f : Nat) (x1 : Int32) (μ : Mm) (H : Heap) (locs : List Loc) (ls : Array Slot), sh_X12_load_191 n f x1 μ = some out → WH (fg G) b μ H → va_S (fb b) s.heap H locs → lv_has ls 2 [(0, .ref (b + 306)), (1, .int x1)] → W p l e ({ frames := 9, cells := 0, slots := 0, locals := 195 } : Room) s m args below meth c H locs 0 0 (MQ below (QW (fg G) b out.2 (some (.int out.1))) args s 0 0 (fb b)) (F0 m 191 ls []) := by
  have hx := F.1
  have hb := F.2.1
  intro f
  induction f with
  | zero =>
    intro _ _ _ _ _ h
    rw [sh_X12_load_191] at h
    cases h
  | succ f ih =>
    intro x1 μ H locs ls h hW hS hl
    rw [sh_X12_load_191] at h
    have hk191 := ih
    refine lv_iload_n hx hb dX12_load_191 rfl (lv_at hl 1 rfl) ?_
    refine lv_sipush (v := (2460 : Int32)) hx hb dX12_load_192 (by decide) ?_
    refine lv_icmp_ge (tgt := 216) hx hb dX12_load_195 (by decide) (fun cc => ?_) (fun cc => ?_)
    · replace h := (if_pos cc).symm.trans h
      refine lv_aload_n hx hb dX12_load_216 rfl (lv_at hl 0 rfl) ?_
      refine fl_get12 (v := .ref (b + 307)) kyf_306 F hW 1 (by decide) q_1472 rfl rfl dX12_load_217 ?_
      refine lv_bipush (v := (9 : Int32)) hx hb dX12_load_220 (by decide) ?_
      obtain ⟨v28, qv28, h⟩ := ob h
      refine fm_iald kyf_307 F hW qv28 dX12_load_222 ?_
      cases h
      exact r_int F hr hW hS dX12_load_223
    · replace h := (if_neg cc).symm.trans h
      refine lv_aload_n hx hb dX12_load_198 rfl (lv_at hl 0 rfl) ?_
      refine fl_get12 (v := .ref (b + 307)) kyf_306 F hW 1 (by decide) q_1472 rfl rfl dX12_load_199 ?_
      refine lv_iload_n hx hb dX12_load_202 rfl (lv_at hl 1 rfl) ?_
      refine lv_aload_n hx hb dX12_load_203 rfl (lv_at hl 0 rfl) ?_
      refine fl_get12 (v := .ref (b + 308)) kyf_306 F hW 2 (by decide) q_1473 rfl rfl dX12_load_204 ?_
      refine lv_iload_n hx hb dX12_load_207 rfl (lv_at hl 1 rfl) ?_
      obtain ⟨v29, qv29, h⟩ := ob h
      refine fm_iald kyf_308 F hW qv29 dX12_load_208 ?_
      obtain ⟨μ30, qμ30, h⟩ := ob h
      refine fm_iast kyf_307 F hW hS qμ30 dX12_load_209 (fun H locs hW hS => ?_)
      refine lv_iinc (v := (x1 + (1 : Int32))) (lv' := [(1, .int (x1 + (1 : Int32))), (0, .ref (b + 306))]) hx hb dX12_load_210 hl (k := 1) rfl rfl (by decide) rfl (fun ls hl => ?_)
      refine lv_goto (tgt := 191) hx hb dX12_load_213 (by decide) ?_
      exact hk191 _ _ _ _ _ h hW hS (lv_sub hl [1, 0] rfl)
set_option maxHeartbeats 4000000 in
set_option maxRecDepth 100000 in
theorem wk_X12_load_167 {n : Nat} {μ : Mm} {out : (Int32 × Mm)} (F : FX (fg G) b RX12 cX12_load 2 p s m args meth c) (hr : meth.sig.returnType = some .int) (h : sh_X12_load_167 n μ = some out) (hW : WH (fg G) b μ H) (hS : va_S (fb b) s.heap H locs) (hl : lv_has ls 2 [(0, .ref (b + 306))]) : W p l e ({ frames := 9, cells := 0, slots := 0, locals := 195 } : Room) s m args below meth c H locs 0 0 (MQ below (QW (fg G) b out.2 (some (.int out.1))) args s 0 0 (fb b)) (F0 m 167 ls []) := by
  have hx := F.1
  have hb := F.2.1
  unfold sh_X12_load_167 at h
  refine lv_aload_n hx hb dX12_load_167 rfl (lv_at hl 0 rfl) ?_
  refine lv_aload_n hx hb dX12_load_168 rfl (lv_at hl 0 rfl) ?_
  refine fl_get12 (v := .ref (b + 307)) kyf_306 F hW 1 (by decide) q_1472 rfl rfl dX12_load_169 ?_
  obtain ⟨μ25, hmμ25, h⟩ := ob h
  refine fl_put12_3 F hW hS q_1474 (Or.inl rfl) hmμ25 dX12_load_172 (fun H locs hW hS => ?_)
  refine lv_aload_n hx hb dX12_load_175 rfl (lv_at hl 0 rfl) ?_
  obtain ⟨r26, qr26, h⟩ := ob h
  refine k_X12_good F qr26 q_1673 ⟨Nat.le_of_ble_eq_true rfl, Nat.le_of_ble_eq_true rfl, Nat.le_of_ble_eq_true rfl, Nat.le_of_ble_eq_true rfl⟩ hW hS hl.1 (Nat.le_of_ble_eq_true rfl) dX12_load_176 (fun H locs hW hS => ?_)
  refine lv_if_ne (tgt := 185) hx hb dX12_load_179 (by decide) (fun cc => ?_) (fun cc => ?_)
  · replace h := (if_neg cc).symm.trans h
    refine lv_aload_n hx hb dX12_load_185 rfl (lv_at hl 0 rfl) ?_
    obtain ⟨r27, qr27, h⟩ := ob h
    refine k_X12_remember F qr27 q_1747 ⟨Nat.le_of_ble_eq_true rfl, Nat.le_of_ble_eq_true rfl, Nat.le_of_ble_eq_true rfl, Nat.le_of_ble_eq_true rfl⟩ hW hS hl.1 (Nat.le_of_ble_eq_true rfl) dX12_load_186 (fun H locs hW hS => ?_)
    refine lv_iconst (v := (0 : Int32)) hx hb dX12_load_189 (by decide) ?_
    refine lv_istore_n (lv' := [(1, .int (0 : Int32)), (0, .ref (b + 306))]) hx hb dX12_load_190 rfl hl (by decide) rfl (fun ls hl => ?_)
    exact wk_X12_load_191 F hr n _ _ _ _ _ h hW hS (lv_sub hl [1, 0] rfl)
  · replace h := (if_pos cc).symm.trans h
    refine lv_bipush (v := (-4 : Int32)) hx hb dX12_load_182 (by decide) ?_
    cases h
    exact r_int F hr hW hS dX12_load_184
set_option maxHeartbeats 4000000 in
set_option maxRecDepth 100000 in
theorem wk_X12_load_146 {n : Nat} {out : (Int32 × Mm)} (F : FX (fg G) b RX12 cX12_load 2 p s m args meth c) (hr : meth.sig.returnType = some .int) : ∀ (f : Nat) (μ : Mm) (H : Heap) (locs : List Loc) (ls : Array Slot), sh_X12_load_146 n f μ = some out → WH (fg G) b μ H → va_S (fb b) s.heap H locs → lv_has ls 2 [(0, .ref (b + 306))] → W p l e ({ frames := 9, cells := 0, slots := 0, locals := 195 } : Room) s m args below meth c H locs 0 0 (MQ below (QW (fg G) b out.2 (some (.int out.1))) args s 0 0 (fb b)) (F0 m 146 ls []) := by
  have hx := F.1
  have hb := F.2.1
  intro f
  induction f with
  | zero =>
    intro _ _ _ _ h
    rw [sh_X12_load_146] at h
    cases h
  | succ f ih =>
    intro μ H locs ls h hW hS hl
    rw [sh_X12_load_146] at h
    have hk146 := ih
    refine lv_aload_n hx hb dX12_load_146 rfl (lv_at hl 0 rfl) ?_
    obtain ⟨r24, qr24, h⟩ := ob h
    refine k_X12_good F qr24 q_1673 ⟨Nat.le_of_ble_eq_true rfl, Nat.le_of_ble_eq_true rfl, Nat.le_of_ble_eq_true rfl, Nat.le_of_ble_eq_true rfl⟩ hW hS hl.1 (Nat.le_of_ble_eq_true rfl) dX12_load_147 (fun H locs hW hS => ?_)
    refine lv_if_eq (tgt := 167) hx hb dX12_load_150 (by decide) (fun cc => ?_) (fun cc => ?_)
    · replace h := (if_pos cc).symm.trans h
      exact wk_X12_load_167 F hr h hW hS (lv_sub hl [0] rfl)
    · replace h := (if_neg cc).symm.trans h
      refine lv_aload_n hx hb dX12_load_153 rfl (lv_at hl 0 rfl) ?_
      refine fl_get12 (v := .int (μ.1 306 9)) kyf_306 F hW 9 (by decide) q_1480 rfl rfl dX12_load_154 ?_
      refine lv_if_eq (tgt := 167) hx hb dX12_load_157 (by decide) (fun cc => ?_) (fun cc => ?_)
      · replace h := (if_pos cc).symm.trans h
        exact wk_X12_load_167 F hr h hW hS (lv_sub hl [0] rfl)
      · replace h := (if_neg cc).symm.trans h
        refine lv_aload_n hx hb dX12_load_160 rfl (lv_at hl 0 rfl) ?_
        obtain ⟨r31, qr31, h⟩ := ob h
        refine k_X12_parseStatement F qr31 q_1702 ⟨Nat.le_of_ble_eq_true rfl, Nat.le_of_ble_eq_true rfl, Nat.le_of_ble_eq_true rfl, Nat.le_of_ble_eq_true rfl⟩ hW hS hl.1 (Nat.le_of_ble_eq_true rfl) dX12_load_161 (fun H locs hW hS => ?_)
        refine lv_goto (tgt := 146) hx hb dX12_load_164 (by decide) ?_
        exact hk146 _ _ _ _ h hW hS (lv_sub hl [0] rfl)
set_option maxHeartbeats 4000000 in
set_option maxRecDepth 100000 in
theorem wk_X12_load_50 {n : Nat} {out : (Int32 × Mm)} (F : FX (fg G) b RX12 cX12_load 2 p s m args meth c) (hr : meth.sig.returnType = some .int) : ∀ (f : Nat) (x1 : Int32) (μ : Mm) (H : Heap) (locs : List Loc) (ls : Array Slot), sh_X12_load_50 n f x1 μ = some out → WH (fg G) b μ H → va_S (fb b) s.heap H locs → lv_has ls 2 [(0, .ref (b + 306)), (1, .int x1)] → W p l e ({ frames := 9, cells := 0, slots := 0, locals := 195 } : Room) s m args below meth c H locs 0 0 (MQ below (QW (fg G) b out.2 (some (.int out.1))) args s 0 0 (fb b)) (F0 m 50 ls []) := by
  have hx := F.1
  have hb := F.2.1
  intro f
  induction f with
  | zero =>
    intro _ _ _ _ _ h
    rw [sh_X12_load_50] at h
    cases h
  | succ f ih =>
    intro x1 μ H locs ls h hW hS hl
    rw [sh_X12_load_50] at h
    have hk50 := ih
    refine lv_iload_n hx hb dX12_load_50 rfl (lv_at hl 1 rfl) ?_
    refine lv_sipush (v := (2460 : Int32)) hx hb dX12_load_51 (by decide) ?_
    refine lv_icmp_ge (tgt := 70) hx hb dX12_load_54 (by decide) (fun cc => ?_) (fun cc => ?_)
    · replace h := (if_pos cc).symm.trans h
      refine lv_aload_n hx hb dX12_load_70 rfl (lv_at hl 0 rfl) ?_
      refine fl_get12 (v := .ref (b + 308)) kyf_306 F hW 2 (by decide) q_1473 rfl rfl dX12_load_71 ?_
      obtain ⟨r10, qr10, h⟩ := ob h
      refine k_X12_begin F kyf_308 qr10 q_1468 ⟨Nat.le_of_ble_eq_true rfl, Nat.le_of_ble_eq_true rfl, Nat.le_of_ble_eq_true rfl, Nat.le_of_ble_eq_true rfl⟩ hW hS hl.1 (Nat.le_of_ble_eq_true rfl) dX12_load_74 (fun H locs hW hS => ?_)
      refine lv_aload_n hx hb dX12_load_77 rfl (lv_at hl 0 rfl) ?_
      refine lv_aload_n hx hb dX12_load_78 rfl (lv_at hl 0 rfl) ?_
      refine fl_get12 (v := .ref (b + 308)) kyf_306 F hW 2 (by decide) q_1473 rfl rfl dX12_load_79 ?_
      obtain ⟨μ11, hmμ11, h⟩ := ob h
      refine fl_put12_3 F hW hS q_1474 (Or.inr rfl) hmμ11 dX12_load_82 (fun H locs hW hS => ?_)
      refine lv_aload_n hx hb dX12_load_85 rfl (lv_at hl 0 rfl) ?_
      obtain ⟨r12, qr12, h⟩ := ob h
      refine k_X12_scan F qr12 q_1650 ⟨Nat.le_of_ble_eq_true rfl, Nat.le_of_ble_eq_true rfl, Nat.le_of_ble_eq_true rfl, Nat.le_of_ble_eq_true rfl⟩ hW hS hl.1 (Nat.le_of_ble_eq_true rfl) dX12_load_86 (fun H locs hW hS => ?_)
      refine lv_aload_n hx hb dX12_load_89 rfl (lv_at hl 0 rfl) ?_
      refine fl_ldcS (index := 252) (tx := "book") (t := 0) (by decide +kernel) F dX12_load_90 ?_
      obtain ⟨r13, qr13, h⟩ := ob h
      refine k_X12_word F (by decide) qr13 q_1665 ⟨Nat.le_of_ble_eq_true rfl, Nat.le_of_ble_eq_true rfl, Nat.le_of_ble_eq_true rfl, Nat.le_of_ble_eq_true rfl⟩ hW hS hl.1 (Nat.le_of_ble_eq_true rfl) dX12_load_92 (fun H locs hW hS => ?_)
      refine lv_aload_n hx hb dX12_load_95 rfl (lv_at hl 0 rfl) ?_
      have pf14 := nd_ky hW.2.1
      refine fl_get12 (v := .ref (b + (r13.2.2 0))) kyf_306 F hW 3 (by decide) q_1474 rfl rfl dX12_load_96 ?_
      refine lv_iconst (v := (0 : Int32)) hx hb dX12_load_99 (by decide) ?_
      refine lv_aload_n hx hb dX12_load_100 rfl (lv_at hl 0 rfl) ?_
      refine fl_ldcS (index := 254) (tx := "width") (t := 1) (by decide +kernel) F dX12_load_101 ?_
      refine lv_bipush (v := (20 : Int32)) hx hb dX12_load_103 (by decide) ?_
      refine lv_bipush (v := (120 : Int32)) hx hb dX12_load_105 (by decide) ?_
      obtain ⟨r15, qr15, h⟩ := ob h
      refine k_X12_numberBehind F (by decide) qr15 q_1688 ⟨Nat.le_of_ble_eq_true rfl, Nat.le_of_ble_eq_true rfl, Nat.le_of_ble_eq_true rfl, Nat.le_of_ble_eq_true rfl⟩ hW hS hl.1 (Nat.le_of_ble_eq_true rfl) dX12_load_107 (fun H locs hW hS => ?_)
      obtain ⟨μ16, qμ16, h⟩ := ob h
      refine fm_iast pf14 F hW hS qμ16 dX12_load_110 (fun H locs hW hS => ?_)
      refine lv_aload_n hx hb dX12_load_111 rfl (lv_at hl 0 rfl) ?_
      have pf17 := nd_ky hW.2.1
      refine fl_get12 (v := .ref (b + (μ16.2.2 0))) kyf_306 F hW 3 (by decide) q_1474 rfl rfl dX12_load_112 ?_
      refine lv_iconst (v := (1 : Int32)) hx hb dX12_load_115 (by decide) ?_
      refine lv_aload_n hx hb dX12_load_116 rfl (lv_at hl 0 rfl) ?_
      refine fl_ldcS (index := 206) (tx := "lines") (t := 2) (by decide +kernel) F dX12_load_117 ?_
      refine lv_iconst (v := (2 : Int32)) hx hb dX12_load_119 (by decide) ?_
      refine lv_bipush (v := (60 : Int32)) hx hb dX12_load_120 (by decide) ?_
      obtain ⟨r18, qr18, h⟩ := ob h
      refine k_X12_numberBehind F (by decide) qr18 q_1688 ⟨Nat.le_of_ble_eq_true rfl, Nat.le_of_ble_eq_true rfl, Nat.le_of_ble_eq_true rfl, Nat.le_of_ble_eq_true rfl⟩ hW hS hl.1 (Nat.le_of_ble_eq_true rfl) dX12_load_122 (fun H locs hW hS => ?_)
      obtain ⟨μ19, qμ19, h⟩ := ob h
      refine fm_iast pf17 F hW hS qμ19 dX12_load_125 (fun H locs hW hS => ?_)
      refine lv_aload_n hx hb dX12_load_126 rfl (lv_at hl 0 rfl) ?_
      have pf20 := nd_ky hW.2.1
      refine fl_get12 (v := .ref (b + (μ19.2.2 0))) kyf_306 F hW 3 (by decide) q_1474 rfl rfl dX12_load_127 ?_
      refine lv_iconst (v := (2 : Int32)) hx hb dX12_load_130 (by decide) ?_
      refine lv_aload_n hx hb dX12_load_131 rfl (lv_at hl 0 rfl) ?_
      refine fl_ldcSW (index := 256) (tx := "page") (t := 3) (by decide +kernel) F dX12_load_132 ?_
      refine lv_iconst (v := (5 : Int32)) hx hb dX12_load_135 (by decide) ?_
      refine lv_bipush (v := (99 : Int32)) hx hb dX12_load_136 (by decide) ?_
      obtain ⟨r21, qr21, h⟩ := ob h
      refine k_X12_numberBehind F (by decide) qr21 q_1688 ⟨Nat.le_of_ble_eq_true rfl, Nat.le_of_ble_eq_true rfl, Nat.le_of_ble_eq_true rfl, Nat.le_of_ble_eq_true rfl⟩ hW hS hl.1 (Nat.le_of_ble_eq_true rfl) dX12_load_138 (fun H locs hW hS => ?_)
      obtain ⟨μ22, qμ22, h⟩ := ob h
      refine fm_iast pf20 F hW hS qμ22 dX12_load_141 (fun H locs hW hS => ?_)
      refine lv_aload_n hx hb dX12_load_142 rfl (lv_at hl 0 rfl) ?_
      obtain ⟨r23, qr23, h⟩ := ob h
      refine k_X12_semicolon F qr23 q_1698 ⟨Nat.le_of_ble_eq_true rfl, Nat.le_of_ble_eq_true rfl, Nat.le_of_ble_eq_true rfl, Nat.le_of_ble_eq_true rfl⟩ hW hS hl.1 (Nat.le_of_ble_eq_true rfl) dX12_load_143 (fun H locs hW hS => ?_)
      exact wk_X12_load_146 F hr n _ _ _ _ h hW hS (lv_sub hl [0] rfl)
    · replace h := (if_neg cc).symm.trans h
      refine lv_aload_n hx hb dX12_load_57 rfl (lv_at hl 0 rfl) ?_
      refine fl_get12 (v := .ref (b + 308)) kyf_306 F hW 2 (by decide) q_1473 rfl rfl dX12_load_58 ?_
      refine lv_iload_n hx hb dX12_load_61 rfl (lv_at hl 1 rfl) ?_
      refine lv_iconst (v := (0 : Int32)) hx hb dX12_load_62 (by decide) ?_
      obtain ⟨μ32, qμ32, h⟩ := ob h
      refine fm_iast kyf_308 F hW hS qμ32 dX12_load_63 (fun H locs hW hS => ?_)
      refine lv_iinc (v := (x1 + (1 : Int32))) (lv' := [(1, .int (x1 + (1 : Int32))), (0, .ref (b + 306))]) hx hb dX12_load_64 hl (k := 1) rfl rfl (by decide) rfl (fun ls hl => ?_)
      refine lv_goto (tgt := 50) hx hb dX12_load_67 (by decide) ?_
      exact hk50 _ _ _ _ _ h hW hS (lv_sub hl [1, 0] rfl)
set_option maxHeartbeats 4000000 in
set_option maxRecDepth 100000 in
theorem wk_X12_load {n : Nat} {μ : Mm} {out : (Int32 × Mm)} (F : FX (fg G) b RX12 cX12_load 2 p s m args meth c) (hr : meth.sig.returnType = some .int) (h : sh_X12_load n  μ = some out) (hW : WH (fg G) b μ H) (hS : va_S (fb b) s.heap H locs) (hl : lv_has ls 2 [(0, .ref (b + 306))]) : W p l e ({ frames := 9, cells := 0, slots := 0, locals := 195 } : Room) s m args below meth c H locs 0 0 (MQ below (QW (fg G) b out.2 (some (.int out.1))) args s 0 0 (fb b)) (F0 m 0 ls []) := by
  have hx := F.1
  have hb := F.2.1
  unfold sh_X12_load at h
  refine lv_aload_n hx hb dX12_load_0 rfl (lv_at hl 0 rfl) ?_
  refine lv_iconst (v := (0 : Int32)) hx hb dX12_load_1 (by decide) ?_
  obtain ⟨μ1, hmμ1, h⟩ := ob h
  refine fl_put12_0 kyf_306 F hW hS q_1471 hmμ1 dX12_load_2 (fun H locs hW hS => ?_)
  refine lv_aload_n hx hb dX12_load_5 rfl (lv_at hl 0 rfl) ?_
  refine lv_aload_n hx hb dX12_load_6 rfl (lv_at hl 0 rfl) ?_
  refine fl_get12 (v := .int (μ1.1 306 5)) kyf_306 F hW 5 (by decide) q_1476 rfl rfl dX12_load_7 ?_
  obtain ⟨μ2, hmμ2, h⟩ := ob h
  refine fl_put12_6 kyf_306 F hW hS q_1477 hmμ2 dX12_load_10 (fun H locs hW hS => ?_)
  refine lv_aload_n hx hb dX12_load_13 rfl (lv_at hl 0 rfl) ?_
  refine lv_iconst (v := (0 : Int32)) hx hb dX12_load_14 (by decide) ?_
  obtain ⟨μ3, hmμ3, h⟩ := ob h
  refine fl_put12_5 kyf_306 F hW hS q_1476 hmμ3 dX12_load_15 (fun H locs hW hS => ?_)
  refine lv_aload_n hx hb dX12_load_18 rfl (lv_at hl 0 rfl) ?_
  refine lv_iconst (v := (0 : Int32)) hx hb dX12_load_19 (by decide) ?_
  obtain ⟨μ4, hmμ4, h⟩ := ob h
  refine fl_put12_7 kyf_306 F hW hS q_1478 hmμ4 dX12_load_20 (fun H locs hW hS => ?_)
  refine lv_aload_n hx hb dX12_load_23 rfl (lv_at hl 0 rfl) ?_
  refine lv_iconst (v := (0 : Int32)) hx hb dX12_load_24 (by decide) ?_
  obtain ⟨μ5, hmμ5, h⟩ := ob h
  refine fl_put12_11 kyf_306 F hW hS q_1482 hmμ5 dX12_load_25 (fun H locs hW hS => ?_)
  refine lv_aload_n hx hb dX12_load_28 rfl (lv_at hl 0 rfl) ?_
  refine lv_iconst (v := (-1 : Int32)) hx hb dX12_load_29 (by decide) ?_
  obtain ⟨μ6, hmμ6, h⟩ := ob h
  refine fl_put12_12 kyf_306 F hW hS q_1483 hmμ6 dX12_load_30 (fun H locs hW hS => ?_)
  refine lv_aload_n hx hb dX12_load_33 rfl (lv_at hl 0 rfl) ?_
  refine lv_iconst (v := (0 : Int32)) hx hb dX12_load_34 (by decide) ?_
  obtain ⟨μ7, hmμ7, h⟩ := ob h
  refine fl_put12_13 kyf_306 F hW hS q_1484 hmμ7 dX12_load_35 (fun H locs hW hS => ?_)
  refine lv_aload_n hx hb dX12_load_38 rfl (lv_at hl 0 rfl) ?_
  refine lv_iconst (v := (0 : Int32)) hx hb dX12_load_39 (by decide) ?_
  obtain ⟨μ8, hmμ8, h⟩ := ob h
  refine fl_put12_14 kyf_306 F hW hS q_1485 hmμ8 dX12_load_40 (fun H locs hW hS => ?_)
  refine lv_aload_n hx hb dX12_load_43 rfl (lv_at hl 0 rfl) ?_
  refine lv_iconst (v := (0 : Int32)) hx hb dX12_load_44 (by decide) ?_
  obtain ⟨μ9, hmμ9, h⟩ := ob h
  refine fl_put12_15 kyf_306 F hW hS q_1486 hmμ9 dX12_load_45 (fun H locs hW hS => ?_)
  refine lv_iconst (v := (0 : Int32)) hx hb dX12_load_48 (by decide) ?_
  refine lv_istore_n (lv' := [(1, .int (0 : Int32)), (0, .ref (b + 306))]) hx hb dX12_load_49 rfl hl (by decide) rfl (fun ls hl => ?_)
  exact wk_X12_load_50 F hr n _ _ _ _ _ h hW hS (lv_sub hl [1, 0] rfl)
set_option maxHeartbeats 4000000 in
set_option maxRecDepth 100000 in
theorem c_X12_load {l : Launch} {G : Gt} {b : Nat} {n : Nat} {μ : Mm} {out : (Int32 × Mm)} (h : sh_X12_load n  μ = some out) : Met l yX12_load (wU (Cond.code yX12_load cX12_load 2 (some .int))) ({ frames := 9, cells := 0, slots := 0, locals := 195 } : Room) (PcW (fg G) b μ [.ref (b + 306)]) (QW (fg G) b out.2 (some (.int out.1))) 0 0 (fb b) :=
  met_of [.ref (b + 306)] (by decide) (Nat.le_of_ble_eq_true rfl) (fun F hr hW hl => wk_X12_load F hr h hW va_S.rf hl)
set_option maxHeartbeats 4000000 in
set_option maxRecDepth 100000 in
theorem k_X12_load {own : String} {nL : Nat} (F : FX (fg G) b own cc nL p s m args meth c) {n : Nat} {μ : Mm} {out : (Int32 × Mm)} (h : sh_X12_load n  μ = some out) {index : Nat} (hl : Cond.methodLink own index yX12_load ∈ TBG) (hR : 9 + 1 ≤ R.frames ∧ 8 + (2 + 11) + 195 ≤ R.locals ∧ cells ≤ R.cells ∧ slots ≤ R.slots) (hW : WH (fg G) b μ H) (hS : va_S (fb b) s.heap H locs) (hsz : ls.size = nL) (hrest : (rest.map fun v => v.category).sum ≤ 8) (hdg : decode cc pc = .ok (.invokevirtual index, 3))
    (kk : ∀ (H1 : Heap) (locs1 : List Loc), WH (fg G) b out.2 H1 → va_S (fb b) s.heap H1 locs1 → W p l e R s m args below meth c H1 locs1 cells slots Q (F0 m (pc + 3) ls (.int out.1 :: rest))) : W p l e R s m args below meth c H locs cells slots Q (F0 m pc ls (.ref (b + 306) :: rest)) :=
  f_callV (As := []) (ci := 12) (c_X12_load h) ⟨rfl, rfl⟩ rfl (ky_lm kyf_306 (by decide)) (wF_12 kyf_306) q_1647 q_1648 q_14 q_1649 rfl ⟨by decide +kernel, by decide +kernel, (show (parseMethodDescriptor yX12_load.desc).map (fun d => d.parameters.length) = some 0 by decide +kernel)⟩ F hl hR hW hS hsz hrest rfl hdg kk
set_option maxHeartbeats 4000000 in
set_option maxRecDepth 100000 in
theorem wk_X12_errorCode {μ : Mm} {out : (Int32 × Mm)} (F : FX (fg G) b RX12 cX12_errorCode 1 p s m args meth c) (hr : meth.sig.returnType = some .int) (h : sh_X12_errorCode  μ = some out) (hW : WH (fg G) b μ H) (hS : va_S (fb b) s.heap H locs) (hl : lv_has ls 1 [(0, .ref (b + 306))]) : W p l e ({ frames := 0, cells := 0, slots := 0, locals := 0 } : Room) s m args below meth c H locs 0 0 (MQ below (QW (fg G) b out.2 (some (.int out.1))) args s 0 0 (fb b)) (F0 m 0 ls []) := by
  have hx := F.1
  have hb := F.2.1
  unfold sh_X12_errorCode at h
  refine lv_aload_n hx hb dX12_errorCode_0 rfl (lv_at hl 0 rfl) ?_
  refine lv_iconst (v := (0 : Int32)) hx hb dX12_errorCode_1 (by decide) ?_
  obtain ⟨μ1, hmμ1, h⟩ := ob h
  refine fl_put12_0 kyf_306 F hW hS q_1471 hmμ1 dX12_errorCode_2 (fun H locs hW hS => ?_)
  refine lv_aload_n hx hb dX12_errorCode_5 rfl (lv_at hl 0 rfl) ?_
  refine fl_get12 (v := .int (μ1.1 306 11)) kyf_306 F hW 11 (by decide) q_1482 rfl rfl dX12_errorCode_6 ?_
  cases h
  exact r_int F hr hW hS dX12_errorCode_9
set_option maxHeartbeats 4000000 in
set_option maxRecDepth 100000 in
theorem c_X12_errorCode {l : Launch} {G : Gt} {b : Nat} {μ : Mm} {out : (Int32 × Mm)} (h : sh_X12_errorCode  μ = some out) : Met l yX12_errorCode (wU (Cond.code yX12_errorCode cX12_errorCode 1 (some .int))) ({ frames := 0, cells := 0, slots := 0, locals := 0 } : Room) (PcW (fg G) b μ [.ref (b + 306)]) (QW (fg G) b out.2 (some (.int out.1))) 0 0 (fb b) :=
  met_of [.ref (b + 306)] (by decide) (Nat.le_of_ble_eq_true rfl) (fun F hr hW hl => wk_X12_errorCode F hr h hW va_S.rf hl)
set_option maxHeartbeats 4000000 in
set_option maxRecDepth 100000 in
theorem k_X12_errorCode {own : String} {nL : Nat} (F : FX (fg G) b own cc nL p s m args meth c) {μ : Mm} {out : (Int32 × Mm)} (h : sh_X12_errorCode  μ = some out) {index : Nat} (hl : Cond.methodLink own index yX12_errorCode ∈ TBG) (hR : 0 + 1 ≤ R.frames ∧ 8 + (1 + 11) + 0 ≤ R.locals ∧ cells ≤ R.cells ∧ slots ≤ R.slots) (hW : WH (fg G) b μ H) (hS : va_S (fb b) s.heap H locs) (hsz : ls.size = nL) (hrest : (rest.map fun v => v.category).sum ≤ 8) (hdg : decode cc pc = .ok (.invokevirtual index, 3))
    (kk : ∀ (H1 : Heap) (locs1 : List Loc), WH (fg G) b out.2 H1 → va_S (fb b) s.heap H1 locs1 → W p l e R s m args below meth c H1 locs1 cells slots Q (F0 m (pc + 3) ls (.int out.1 :: rest))) : W p l e R s m args below meth c H locs cells slots Q (F0 m pc ls (.ref (b + 306) :: rest)) :=
  f_callV (As := []) (ci := 12) (c_X12_errorCode h) ⟨rfl, rfl⟩ rfl (ky_lm kyf_306 (by decide)) (wF_12 kyf_306) q_1752 q_1753 q_14 q_1754 rfl ⟨by decide +kernel, by decide +kernel, (show (parseMethodDescriptor yX12_errorCode.desc).map (fun d => d.parameters.length) = some 0 by decide +kernel)⟩ F hl hR hW hS hsz hrest rfl hdg kk
end G150
