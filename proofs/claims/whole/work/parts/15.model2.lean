section G151
variable {p : Program} {l : Launch} {e : Env} {R : Room} {s : State} {m : MethodId} {args : Array Value} {below : List Frame} {meth : Method} {c : Code} {H : Heap} {locs : List Loc} {cells slots : Nat} {Q : State → Prop}
variable {cc : ByteArray} {pc : Nat} {ls : Array Slot} {rest : List Value} {G : Gt} {b : Nat}

set_option maxHeartbeats 4000000 in
set_option maxRecDepth 100000 in
theorem wk_X12_errorPosition {μ : Mm} {out : (Int32 × Mm)} (F : FX (fg G) b RX12 cX12_errorPosition 1 p s m args meth c) (hr : meth.sig.returnType = some .int) (h : sh_X12_errorPosition  μ = some out) (hW : WH (fg G) b μ H) (hS : va_S (fb b) s.heap H locs) (hl : lv_has ls 1 [(0, .ref (b + 306))]) : W p l e ({ frames := 0, cells := 0, slots := 0, locals := 0 } : Room) s m args below meth c H locs 0 0 (MQ below (QW (fg G) b out.2 (some (.int out.1))) args s 0 0 (fb b)) (F0 m 0 ls []) := by
  have hx := F.1
  have hb := F.2.1
  unfold sh_X12_errorPosition at h
  refine lv_aload_n hx hb dX12_errorPosition_0 rfl (lv_at hl 0 rfl) ?_
  refine lv_iconst (v := (0 : Int32)) hx hb dX12_errorPosition_1 (by decide) ?_
  obtain ⟨μ1, hmμ1, h⟩ := ob h
  refine fl_put12_0 kyf_306 F hW hS q_1471 hmμ1 dX12_errorPosition_2 (fun H locs hW hS => ?_)
  refine lv_aload_n hx hb dX12_errorPosition_5 rfl (lv_at hl 0 rfl) ?_
  refine fl_get12 (v := .int (μ1.1 306 12)) kyf_306 F hW 12 (by decide) q_1483 rfl rfl dX12_errorPosition_6 ?_
  cases h
  exact r_int F hr hW hS dX12_errorPosition_9
set_option maxHeartbeats 4000000 in
set_option maxRecDepth 100000 in
theorem c_X12_errorPosition {l : Launch} {G : Gt} {b : Nat} {μ : Mm} {out : (Int32 × Mm)} (h : sh_X12_errorPosition  μ = some out) : Met l yX12_errorPosition (wU (Cond.code yX12_errorPosition cX12_errorPosition 1 (some .int))) ({ frames := 0, cells := 0, slots := 0, locals := 0 } : Room) (PcW (fg G) b μ [.ref (b + 306)]) (QW (fg G) b out.2 (some (.int out.1))) 0 0 (fb b) :=
  met_of [.ref (b + 306)] (by decide) (Nat.le_of_ble_eq_true rfl) (fun F hr hW hl => wk_X12_errorPosition F hr h hW va_S.rf hl)
set_option maxHeartbeats 4000000 in
set_option maxRecDepth 100000 in
theorem k_X12_errorPosition {own : String} {nL : Nat} (F : FX (fg G) b own cc nL p s m args meth c) {μ : Mm} {out : (Int32 × Mm)} (h : sh_X12_errorPosition  μ = some out) {index : Nat} (hl : Cond.methodLink own index yX12_errorPosition ∈ TBG) (hR : 0 + 1 ≤ R.frames ∧ 8 + (1 + 11) + 0 ≤ R.locals ∧ cells ≤ R.cells ∧ slots ≤ R.slots) (hW : WH (fg G) b μ H) (hS : va_S (fb b) s.heap H locs) (hsz : ls.size = nL) (hrest : (rest.map fun v => v.category).sum ≤ 8) (hdg : decode cc pc = .ok (.invokevirtual index, 3))
    (kk : ∀ (H1 : Heap) (locs1 : List Loc), WH (fg G) b out.2 H1 → va_S (fb b) s.heap H1 locs1 → W p l e R s m args below meth c H1 locs1 cells slots Q (F0 m (pc + 3) ls (.int out.1 :: rest))) : W p l e R s m args below meth c H locs cells slots Q (F0 m pc ls (.ref (b + 306) :: rest)) :=
  f_callV (As := []) (ci := 12) (c_X12_errorPosition h) ⟨rfl, rfl⟩ rfl (ky_lm kyf_306 (by decide)) (wF_12 kyf_306) q_1756 q_1757 q_14 q_1758 rfl ⟨by decide +kernel, by decide +kernel, (show (parseMethodDescriptor yX12_errorPosition.desc).map (fun d => d.parameters.length) = some 0 by decide +kernel)⟩ F hl hR hW hS hsz hrest rfl hdg kk
set_option maxHeartbeats 4000000 in
set_option maxRecDepth 100000 in
theorem wk_X12_put {a1 : Int32} {μ : Mm} {out : Mm} (F : FX (fg G) b RX12 cX12_put 2 p s m args meth c) (hr : meth.sig.returnType = none) (h : sh_X12_put a1 μ = some out) (hW : WH (fg G) b μ H) (hS : va_S (fb b) s.heap H locs) (hl : lv_has ls 2 [(0, .ref (b + 306)), (1, .int a1)]) : W p l e ({ frames := 0, cells := 0, slots := 0, locals := 0 } : Room) s m args below meth c H locs 0 0 (MQ below (QW (fg G) b out none) args s 0 0 (fb b)) (F0 m 0 ls []) := by
  have hx := F.1
  have hb := F.2.1
  unfold sh_X12_put at h
  refine lv_aload_n hx hb dX12_put_0 rfl (lv_at hl 0 rfl) ?_
  refine fl_get12 (v := .ref (b + 310)) kyf_306 F hW 16 (by decide) q_1487 rfl rfl dX12_put_1 ?_
  refine lv_aload_n hx hb dX12_put_4 rfl (lv_at hl 0 rfl) ?_
  refine fl_get12 (v := .int (μ.1 306 17)) kyf_306 F hW 17 (by decide) q_1488 rfl rfl dX12_put_5 ?_
  refine lv_iload_n hx hb dX12_put_8 rfl (lv_at hl 1 rfl) ?_
  refine lv_i2b hx hb dX12_put_9 rfl ?_
  obtain ⟨μ1, qμ1, h⟩ := ob h
  refine fm_bast kyf_310 F hW hS qμ1 dX12_put_10 (fun H locs hW hS => ?_)
  refine lv_aload_n hx hb dX12_put_11 rfl (lv_at hl 0 rfl) ?_
  refine lv_dup hx hb dX12_put_12 rfl ?_
  refine fl_get12 (v := .int (μ1.1 306 17)) kyf_306 F hW 17 (by decide) q_1488 rfl rfl dX12_put_13 ?_
  refine lv_iconst (v := (1 : Int32)) hx hb dX12_put_16 (by decide) ?_
  refine lv_iadd hx hb dX12_put_17 ?_
  obtain ⟨μ2, hmμ2, h⟩ := ob h
  refine fl_put12_17 kyf_306 F hW hS q_1488 hmμ2 dX12_put_18 (fun H locs hW hS => ?_)
  cases h
  exact r_void F hr hW hS dX12_put_21
set_option maxHeartbeats 4000000 in
set_option maxRecDepth 100000 in
theorem c_X12_put {l : Launch} {G : Gt} {b : Nat} {a1 : Int32} {μ : Mm} {out : Mm} (h : sh_X12_put a1 μ = some out) : Met l yX12_put (wU (Cond.code yX12_put cX12_put 2 none)) ({ frames := 0, cells := 0, slots := 0, locals := 0 } : Room) (PcW (fg G) b μ [.ref (b + 306), .int a1]) (QW (fg G) b out none) 0 0 (fb b) :=
  met_of [.ref (b + 306), .int a1] (by decide) (Nat.le_of_ble_eq_true rfl) (fun F hr hW hl => wk_X12_put F hr h hW va_S.rf hl)
set_option maxHeartbeats 4000000 in
set_option maxRecDepth 100000 in
theorem k_X12_put {own : String} {nL : Nat} (F : FX (fg G) b own cc nL p s m args meth c) {a1 : Int32} {μ : Mm} {out : Mm} (h : sh_X12_put a1 μ = some out) {index : Nat} (hl : Cond.methodLink own index yX12_put ∈ TBG) (hR : 0 + 1 ≤ R.frames ∧ 8 + (2 + 11) + 0 ≤ R.locals ∧ cells ≤ R.cells ∧ slots ≤ R.slots) (hW : WH (fg G) b μ H) (hS : va_S (fb b) s.heap H locs) (hsz : ls.size = nL) (hrest : (rest.map fun v => v.category).sum ≤ 8) (hdg : decode cc pc = .ok (.invokevirtual index, 3))
    (kk : ∀ (H1 : Heap) (locs1 : List Loc), WH (fg G) b out H1 → va_S (fb b) s.heap H1 locs1 → W p l e R s m args below meth c H1 locs1 cells slots Q (F0 m (pc + 3) ls (rest))) : W p l e R s m args below meth c H locs cells slots Q (F0 m pc ls (.int a1 :: .ref (b + 306) :: rest)) :=
  f_callV (As := [.int a1]) (ci := 12) (c_X12_put h) ⟨rfl, rfl⟩ rfl (ky_lm kyf_306 (by decide)) (wF_12 kyf_306) q_1806 qp_75 q_14 q_1807 rfl ⟨by decide +kernel, by decide +kernel, (show (parseMethodDescriptor yX12_put.desc).map (fun d => d.parameters.length) = some 1 by decide +kernel)⟩ F hl hR hW hS hsz hrest rfl hdg kk
set_option maxHeartbeats 4000000 in
set_option maxRecDepth 100000 in
theorem wk_X12_putNumber_20 {n : Nat} {a1 : Int32} {out : Mm} (F : FX (fg G) b RX12 cX12_putNumber 4 p s m args meth c) (hr : meth.sig.returnType = none) : ∀ (f : Nat) (x3 : Int32) (μ : Mm) (H : Heap) (locs : List Loc) (ls : Array Slot), sh_X12_putNumber_20 n a1 f x3 μ = some out → WH (fg G) b μ H → va_S (fb b) s.heap H locs → lv_has ls 4 [(0, .ref (b + 306)), (1, .int a1), (3, .int x3)] → W p l e ({ frames := 1, cells := 0, slots := 0, locals := 21 } : Room) s m args below meth c H locs 0 0 (MQ below (QW (fg G) b out none) args s 0 0 (fb b)) (F0 m 20 ls []) := by
  have hx := F.1
  have hb := F.2.1
  intro f
  induction f with
  | zero =>
    intro _ _ _ _ _ h
    rw [sh_X12_putNumber_20] at h
    cases h
  | succ f ih =>
    intro x3 μ H locs ls h hW hS hl
    rw [sh_X12_putNumber_20] at h
    have hk20 := ih
    refine lv_iload_n hx hb dX12_putNumber_20 rfl (lv_at hl 2 rfl) ?_
    refine lv_if_le (tgt := 45) hx hb dX12_putNumber_21 (by decide) (fun cc => ?_) (fun cc => ?_)
    · replace h := (if_pos cc).symm.trans h
      cases h
      exact r_void F hr hW hS dX12_putNumber_45
    · replace h := (if_neg cc).symm.trans h
      refine lv_aload_n hx hb dX12_putNumber_24 rfl (lv_at hl 0 rfl) ?_
      refine lv_bipush (v := (48 : Int32)) hx hb dX12_putNumber_25 (by decide) ?_
      refine lv_iload_n hx hb dX12_putNumber_27 rfl (lv_at hl 1 rfl) ?_
      refine lv_iload_n hx hb dX12_putNumber_28 rfl (lv_at hl 2 rfl) ?_
      obtain ⟨v2, qv2, h⟩ := ob h
      obtain ⟨zv2, qv2⟩ := dv_some qv2
      refine lv_idiv hx hb dX12_putNumber_29 zv2 ?_
      rw [qv2]
      refine lv_bipush (v := (10 : Int32)) hx hb dX12_putNumber_30 (by decide) ?_
      obtain ⟨v3, qv3, h⟩ := ob h
      obtain ⟨zv3, qv3⟩ := rm_some qv3
      refine lv_irem hx hb dX12_putNumber_32 zv3 ?_
      rw [qv3]
      refine lv_iadd hx hb dX12_putNumber_33 ?_
      obtain ⟨r4, qr4, h⟩ := ob h
      refine k_X12_put F qr4 q_1804 ⟨Nat.le_of_ble_eq_true rfl, Nat.le_of_ble_eq_true rfl, Nat.le_of_ble_eq_true rfl, Nat.le_of_ble_eq_true rfl⟩ hW hS hl.1 (Nat.le_of_ble_eq_true rfl) dX12_putNumber_34 (fun H locs hW hS => ?_)
      refine lv_iload_n hx hb dX12_putNumber_37 rfl (lv_at hl 2 rfl) ?_
      refine lv_bipush (v := (10 : Int32)) hx hb dX12_putNumber_38 (by decide) ?_
      obtain ⟨v5, qv5, h⟩ := ob h
      obtain ⟨zv5, qv5⟩ := dv_some qv5
      refine lv_idiv hx hb dX12_putNumber_40 zv5 ?_
      rw [qv5]
      refine lv_istore_n (lv' := [(3, .int v5), (0, .ref (b + 306)), (1, .int a1)]) hx hb dX12_putNumber_41 rfl hl (by decide) rfl (fun ls hl => ?_)
      refine lv_goto (tgt := 20) hx hb dX12_putNumber_42 (by decide) ?_
      exact hk20 _ _ _ _ _ h hW hS (lv_sub hl [1, 2, 0] rfl)
set_option maxHeartbeats 4000000 in
set_option maxRecDepth 100000 in
theorem wk_X12_putNumber_2 {n : Nat} {a1 : Int32} {out : Mm} (F : FX (fg G) b RX12 cX12_putNumber 4 p s m args meth c) (hr : meth.sig.returnType = none) : ∀ (f : Nat) (x2 : Int32) (μ : Mm) (H : Heap) (locs : List Loc) (ls : Array Slot), sh_X12_putNumber_2 n a1 f x2 μ = some out → WH (fg G) b μ H → va_S (fb b) s.heap H locs → lv_has ls 4 [(0, .ref (b + 306)), (1, .int a1), (2, .int x2)] → W p l e ({ frames := 1, cells := 0, slots := 0, locals := 21 } : Room) s m args below meth c H locs 0 0 (MQ below (QW (fg G) b out none) args s 0 0 (fb b)) (F0 m 2 ls []) := by
  have hx := F.1
  have hb := F.2.1
  intro f
  induction f with
  | zero =>
    intro _ _ _ _ _ h
    rw [sh_X12_putNumber_2] at h
    cases h
  | succ f ih =>
    intro x2 μ H locs ls h hW hS hl
    rw [sh_X12_putNumber_2] at h
    have hk2 := ih
    refine lv_iload_n hx hb dX12_putNumber_2 rfl (lv_at hl 1 rfl) ?_
    refine lv_iload_n hx hb dX12_putNumber_3 rfl (lv_at hl 2 rfl) ?_
    obtain ⟨v1, qv1, h⟩ := ob h
    obtain ⟨zv1, qv1⟩ := dv_some qv1
    refine lv_idiv hx hb dX12_putNumber_4 zv1 ?_
    rw [qv1]
    refine lv_bipush (v := (10 : Int32)) hx hb dX12_putNumber_5 (by decide) ?_
    refine lv_icmp_lt (tgt := 18) hx hb dX12_putNumber_7 (by decide) (fun cc => ?_) (fun cc => ?_)
    · replace h := (if_pos cc).symm.trans h
      refine lv_iload_n hx hb dX12_putNumber_18 rfl (lv_at hl 2 rfl) ?_
      refine lv_istore_n (lv' := [(3, .int x2), (0, .ref (b + 306)), (1, .int a1), (2, .int x2)]) hx hb dX12_putNumber_19 rfl hl (by decide) rfl (fun ls hl => ?_)
      exact wk_X12_putNumber_20 F hr n _ _ _ _ _ h hW hS (lv_sub hl [1, 2, 0] rfl)
    · replace h := (if_neg cc).symm.trans h
      refine lv_iload_n hx hb dX12_putNumber_10 rfl (lv_at hl 2 rfl) ?_
      refine lv_bipush (v := (10 : Int32)) hx hb dX12_putNumber_11 (by decide) ?_
      refine lv_imul hx hb dX12_putNumber_13 ?_
      obtain ⟨v6, ev6⟩ : ∃ y, y = (x2 * (10 : Int32)) := ⟨_, rfl⟩
      have h := nm_at ev6 h
      rw [← ev6]
      refine lv_istore_n (lv' := [(2, .int v6), (0, .ref (b + 306)), (1, .int a1)]) hx hb dX12_putNumber_14 rfl hl (by decide) rfl (fun ls hl => ?_)
      refine lv_goto (tgt := 2) hx hb dX12_putNumber_15 (by decide) ?_
      exact hk2 _ _ _ _ _ h hW hS (lv_sub hl [1, 2, 0] rfl)
set_option maxHeartbeats 4000000 in
set_option maxRecDepth 100000 in
theorem wk_X12_putNumber {n : Nat} {a1 : Int32} {μ : Mm} {out : Mm} (F : FX (fg G) b RX12 cX12_putNumber 4 p s m args meth c) (hr : meth.sig.returnType = none) (h : sh_X12_putNumber n a1 μ = some out) (hW : WH (fg G) b μ H) (hS : va_S (fb b) s.heap H locs) (hl : lv_has ls 4 [(0, .ref (b + 306)), (1, .int a1)]) : W p l e ({ frames := 1, cells := 0, slots := 0, locals := 21 } : Room) s m args below meth c H locs 0 0 (MQ below (QW (fg G) b out none) args s 0 0 (fb b)) (F0 m 0 ls []) := by
  have hx := F.1
  have hb := F.2.1
  unfold sh_X12_putNumber at h
  refine lv_iconst (v := (1 : Int32)) hx hb dX12_putNumber_0 (by decide) ?_
  refine lv_istore_n (lv' := [(2, .int (1 : Int32)), (0, .ref (b + 306)), (1, .int a1)]) hx hb dX12_putNumber_1 rfl hl (by decide) rfl (fun ls hl => ?_)
  exact wk_X12_putNumber_2 F hr n _ _ _ _ _ h hW hS (lv_sub hl [1, 2, 0] rfl)
set_option maxHeartbeats 4000000 in
set_option maxRecDepth 100000 in
theorem c_X12_putNumber {l : Launch} {G : Gt} {b : Nat} {n : Nat} {a1 : Int32} {μ : Mm} {out : Mm} (h : sh_X12_putNumber n a1 μ = some out) : Met l yX12_putNumber (wU (Cond.code yX12_putNumber cX12_putNumber 4 none)) ({ frames := 1, cells := 0, slots := 0, locals := 21 } : Room) (PcW (fg G) b μ [.ref (b + 306), .int a1]) (QW (fg G) b out none) 0 0 (fb b) :=
  met_of [.ref (b + 306), .int a1] (by decide) (Nat.le_of_ble_eq_true rfl) (fun F hr hW hl => wk_X12_putNumber F hr h hW va_S.rf hl)
set_option maxHeartbeats 4000000 in
set_option maxRecDepth 100000 in
theorem k_X12_putNumber {own : String} {nL : Nat} (F : FX (fg G) b own cc nL p s m args meth c) {n : Nat} {a1 : Int32} {μ : Mm} {out : Mm} (h : sh_X12_putNumber n a1 μ = some out) {index : Nat} (hl : Cond.methodLink own index yX12_putNumber ∈ TBG) (hR : 1 + 1 ≤ R.frames ∧ 8 + (4 + 11) + 21 ≤ R.locals ∧ cells ≤ R.cells ∧ slots ≤ R.slots) (hW : WH (fg G) b μ H) (hS : va_S (fb b) s.heap H locs) (hsz : ls.size = nL) (hrest : (rest.map fun v => v.category).sum ≤ 8) (hdg : decode cc pc = .ok (.invokevirtual index, 3))
    (kk : ∀ (H1 : Heap) (locs1 : List Loc), WH (fg G) b out H1 → va_S (fb b) s.heap H1 locs1 → W p l e R s m args below meth c H1 locs1 cells slots Q (F0 m (pc + 3) ls (rest))) : W p l e R s m args below meth c H locs cells slots Q (F0 m pc ls (.int a1 :: .ref (b + 306) :: rest)) :=
  f_callV (As := [.int a1]) (ci := 12) (c_X12_putNumber h) ⟨rfl, rfl⟩ rfl (ky_lm kyf_306 (by decide)) (wF_12 kyf_306) q_1814 qp_77 q_14 q_1815 rfl ⟨by decide +kernel, by decide +kernel, (show (parseMethodDescriptor yX12_putNumber.desc).map (fun d => d.parameters.length) = some 1 by decide +kernel)⟩ F hl hR hW hS hsz hrest rfl hdg kk
set_option maxHeartbeats 4000000 in
set_option maxRecDepth 100000 in
theorem wk_X12_putWord_2 {n : Nat} {a1 : Int32} {a2 : Int32} {out : Mm} (F : FX (fg G) b RX12 cX12_putWord 4 p s m args meth c) (hr : meth.sig.returnType = none) : ∀ (f : Nat) (x3 : Int32) (μ : Mm) (H : Heap) (locs : List Loc) (ls : Array Slot), sh_X12_putWord_2 n a1 a2 f x3 μ = some out → WH (fg G) b μ H → va_S (fb b) s.heap H locs → lv_has ls 4 [(0, .ref (b + 306)), (1, .int a1), (2, .int a2), (3, .int x3)] → W p l e ({ frames := 2, cells := 0, slots := 0, locals := 45 } : Room) s m args below meth c H locs 0 0 (MQ below (QW (fg G) b out none) args s 0 0 (fb b)) (F0 m 2 ls []) := by
  have hx := F.1
  have hb := F.2.1
  intro f
  induction f with
  | zero =>
    intro _ _ _ _ _ h
    rw [sh_X12_putWord_2] at h
    cases h
  | succ f ih =>
    intro x3 μ H locs ls h hW hS hl
    rw [sh_X12_putWord_2] at h
    have hk2 := ih
    refine lv_iload_n hx hb dX12_putWord_2 rfl (lv_at hl 3 rfl) ?_
    refine lv_bipush (v := (12 : Int32)) hx hb dX12_putWord_3 (by decide) ?_
    refine lv_icmp_ge (tgt := 35) hx hb dX12_putWord_5 (by decide) (fun cc => ?_) (fun cc => ?_)
    · replace h := (if_pos cc).symm.trans h
      cases h
      exact r_void F hr hW hS dX12_putWord_35
    · replace h := (if_neg cc).symm.trans h
      refine lv_aload_n hx hb dX12_putWord_8 rfl (lv_at hl 0 rfl) ?_
      refine lv_iload_n hx hb dX12_putWord_9 rfl (lv_at hl 1 rfl) ?_
      refine lv_iload_n hx hb dX12_putWord_10 rfl (lv_at hl 2 rfl) ?_
      refine lv_iload_n hx hb dX12_putWord_11 rfl (lv_at hl 3 rfl) ?_
      obtain ⟨r1, qr1, h⟩ := ob h
      refine k_X12_letterOf F qr1 q_1844 ⟨Nat.le_of_ble_eq_true rfl, Nat.le_of_ble_eq_true rfl, Nat.le_of_ble_eq_true rfl, Nat.le_of_ble_eq_true rfl⟩ hW hS hl.1 (Nat.le_of_ble_eq_true rfl) dX12_putWord_12 (fun H locs hW hS => ?_)
      refine lv_if_eq (tgt := 35) hx hb dX12_putWord_15 (by decide) (fun cc => ?_) (fun cc => ?_)
      · replace h := (if_pos cc).symm.trans h
        cases h
        exact r_void F hr hW hS dX12_putWord_35
      · replace h := (if_neg cc).symm.trans h
        refine lv_aload_n hx hb dX12_putWord_18 rfl (lv_at hl 0 rfl) ?_
        refine lv_aload_n hx hb dX12_putWord_19 rfl (lv_at hl 0 rfl) ?_
        refine lv_iload_n hx hb dX12_putWord_20 rfl (lv_at hl 1 rfl) ?_
        refine lv_iload_n hx hb dX12_putWord_21 rfl (lv_at hl 2 rfl) ?_
        refine lv_iload_n hx hb dX12_putWord_22 rfl (lv_at hl 3 rfl) ?_
        obtain ⟨r2, qr2, h⟩ := ob h
        refine k_X12_letterOf F qr2 q_1844 ⟨Nat.le_of_ble_eq_true rfl, Nat.le_of_ble_eq_true rfl, Nat.le_of_ble_eq_true rfl, Nat.le_of_ble_eq_true rfl⟩ hW hS hl.1 (Nat.le_of_ble_eq_true rfl) dX12_putWord_23 (fun H locs hW hS => ?_)
        obtain ⟨r3, qr3, h⟩ := ob h
        refine k_X12_put F qr3 q_1804 ⟨Nat.le_of_ble_eq_true rfl, Nat.le_of_ble_eq_true rfl, Nat.le_of_ble_eq_true rfl, Nat.le_of_ble_eq_true rfl⟩ hW hS hl.1 (Nat.le_of_ble_eq_true rfl) dX12_putWord_26 (fun H locs hW hS => ?_)
        refine lv_iinc (v := (x3 + (1 : Int32))) (lv' := [(3, .int (x3 + (1 : Int32))), (0, .ref (b + 306)), (1, .int a1), (2, .int a2)]) hx hb dX12_putWord_29 hl (k := 3) rfl rfl (by decide) rfl (fun ls hl => ?_)
        refine lv_goto (tgt := 2) hx hb dX12_putWord_32 (by decide) ?_
        exact hk2 _ _ _ _ _ h hW hS (lv_sub hl [1, 2, 3, 0] rfl)
set_option maxHeartbeats 4000000 in
set_option maxRecDepth 100000 in
theorem wk_X12_putWord {n : Nat} {a1 : Int32} {a2 : Int32} {μ : Mm} {out : Mm} (F : FX (fg G) b RX12 cX12_putWord 4 p s m args meth c) (hr : meth.sig.returnType = none) (h : sh_X12_putWord n a1 a2 μ = some out) (hW : WH (fg G) b μ H) (hS : va_S (fb b) s.heap H locs) (hl : lv_has ls 4 [(0, .ref (b + 306)), (1, .int a1), (2, .int a2)]) : W p l e ({ frames := 2, cells := 0, slots := 0, locals := 45 } : Room) s m args below meth c H locs 0 0 (MQ below (QW (fg G) b out none) args s 0 0 (fb b)) (F0 m 0 ls []) := by
  have hx := F.1
  have hb := F.2.1
  unfold sh_X12_putWord at h
  refine lv_iconst (v := (0 : Int32)) hx hb dX12_putWord_0 (by decide) ?_
  refine lv_istore_n (lv' := [(3, .int (0 : Int32)), (0, .ref (b + 306)), (1, .int a1), (2, .int a2)]) hx hb dX12_putWord_1 rfl hl (by decide) rfl (fun ls hl => ?_)
  exact wk_X12_putWord_2 F hr n _ _ _ _ _ h hW hS (lv_sub hl [1, 2, 3, 0] rfl)
set_option maxHeartbeats 4000000 in
set_option maxRecDepth 100000 in
theorem c_X12_putWord {l : Launch} {G : Gt} {b : Nat} {n : Nat} {a1 : Int32} {a2 : Int32} {μ : Mm} {out : Mm} (h : sh_X12_putWord n a1 a2 μ = some out) : Met l yX12_putWord (wU (Cond.code yX12_putWord cX12_putWord 4 none)) ({ frames := 2, cells := 0, slots := 0, locals := 45 } : Room) (PcW (fg G) b μ [.ref (b + 306), .int a1, .int a2]) (QW (fg G) b out none) 0 0 (fb b) :=
  met_of [.ref (b + 306), .int a1, .int a2] (by decide) (Nat.le_of_ble_eq_true rfl) (fun F hr hW hl => wk_X12_putWord F hr h hW va_S.rf hl)
set_option maxHeartbeats 4000000 in
set_option maxRecDepth 100000 in
theorem k_X12_putWord {own : String} {nL : Nat} (F : FX (fg G) b own cc nL p s m args meth c) {n : Nat} {a1 : Int32} {a2 : Int32} {μ : Mm} {out : Mm} (h : sh_X12_putWord n a1 a2 μ = some out) {index : Nat} (hl : Cond.methodLink own index yX12_putWord ∈ TBG) (hR : 2 + 1 ≤ R.frames ∧ 8 + (4 + 11) + 45 ≤ R.locals ∧ cells ≤ R.cells ∧ slots ≤ R.slots) (hW : WH (fg G) b μ H) (hS : va_S (fb b) s.heap H locs) (hsz : ls.size = nL) (hrest : (rest.map fun v => v.category).sum ≤ 8) (hdg : decode cc pc = .ok (.invokevirtual index, 3))
    (kk : ∀ (H1 : Heap) (locs1 : List Loc), WH (fg G) b out H1 → va_S (fb b) s.heap H1 locs1 → W p l e R s m args below meth c H1 locs1 cells slots Q (F0 m (pc + 3) ls (rest))) : W p l e R s m args below meth c H locs cells slots Q (F0 m pc ls (.int a2 :: .int a1 :: .ref (b + 306) :: rest)) :=
  f_callV (As := [.int a1, .int a2]) (ci := 12) (c_X12_putWord h) ⟨rfl, rfl⟩ rfl (ky_lm kyf_306 (by decide)) (wF_12 kyf_306) q_1842 qp_83 q_14 q_1843 rfl ⟨by decide +kernel, by decide +kernel, (show (parseMethodDescriptor yX12_putWord.desc).map (fun d => d.parameters.length) = some 2 by decide +kernel)⟩ F hl hR hW hS hsz hrest rfl hdg kk
set_option maxHeartbeats 4000000 in
set_option maxRecDepth 100000 in
theorem wk_X12_putRomanFigure_67 {n : Nat} {a1 : Int32} {a2 : Int32} {a3 : Int32} {a4 : Int32} {out : Mm} (F : FX (fg G) b RX12 cX12_putRomanFigure 7 p s m args meth c) (hr : meth.sig.returnType = none) : ∀ (f : Nat) (x5 : Int32) (x6 : Int32) (μ : Mm) (H : Heap) (locs : List Loc) (ls : Array Slot), sh_X12_putRomanFigure_67 n a1 a2 a3 a4 f x5 x6 μ = some out → WH (fg G) b μ H → va_S (fb b) s.heap H locs → lv_has ls 7 [(0, .ref (b + 306)), (2, .int a2), (5, .int x5), (6, .int x6)] → W p l e ({ frames := 1, cells := 0, slots := 0, locals := 21 } : Room) s m args below meth c H locs 0 0 (MQ below (QW (fg G) b out none) args s 0 0 (fb b)) (F0 m 67 ls []) := by
  have hx := F.1
  have hb := F.2.1
  intro f
  induction f with
  | zero =>
    intro _ _ _ _ _ _ h
    rw [sh_X12_putRomanFigure_67] at h
    cases h
  | succ f ih =>
    intro x5 x6 μ H locs ls h hW hS hl
    rw [sh_X12_putRomanFigure_67] at h
    have hk67 := ih
    refine lv_iload hx hb dX12_putRomanFigure_67 (lv_at hl 3 rfl) ?_
    refine lv_iload hx hb dX12_putRomanFigure_69 (lv_at hl 2 rfl) ?_
    refine lv_icmp_ge (tgt := 85) hx hb dX12_putRomanFigure_71 (by decide) (fun cc => ?_) (fun cc => ?_)
    · replace h := (if_pos cc).symm.trans h
      cases h
      exact r_void F hr hW hS dX12_putRomanFigure_85
    · replace h := (if_neg cc).symm.trans h
      refine lv_aload_n hx hb dX12_putRomanFigure_74 rfl (lv_at hl 0 rfl) ?_
      refine lv_iload_n hx hb dX12_putRomanFigure_75 rfl (lv_at hl 1 rfl) ?_
      obtain ⟨r2, qr2, h⟩ := ob h
      refine k_X12_put F qr2 q_1804 ⟨Nat.le_of_ble_eq_true rfl, Nat.le_of_ble_eq_true rfl, Nat.le_of_ble_eq_true rfl, Nat.le_of_ble_eq_true rfl⟩ hW hS hl.1 (Nat.le_of_ble_eq_true rfl) dX12_putRomanFigure_76 (fun H locs hW hS => ?_)
      refine lv_iinc (v := (x6 + (1 : Int32))) (lv' := [(6, .int (x6 + (1 : Int32))), (0, .ref (b + 306)), (2, .int a2), (5, .int x5)]) hx hb dX12_putRomanFigure_79 hl (k := 3) rfl rfl (by decide) rfl (fun ls hl => ?_)
      refine lv_goto (tgt := 67) hx hb dX12_putRomanFigure_82 (by decide) ?_
      exact hk67 _ _ _ _ _ _ h hW hS (lv_sub hl [1, 2, 3, 0] rfl)
set_option maxHeartbeats 4000000 in
set_option maxRecDepth 100000 in
theorem wk_X12_putRomanFigure_44 {n : Nat} {a1 : Int32} {a2 : Int32} {a3 : Int32} {a4 : Int32} {μ : Mm} {out : Mm} (F : FX (fg G) b RX12 cX12_putRomanFigure 7 p s m args meth c) (hr : meth.sig.returnType = none) (h : sh_X12_putRomanFigure_44 n a1 a2 a3 a4 μ = some out) (hW : WH (fg G) b μ H) (hS : va_S (fb b) s.heap H locs) (hl : lv_has ls 7 [(0, .ref (b + 306)), (1, .int a1), (2, .int a2)]) : W p l e ({ frames := 1, cells := 0, slots := 0, locals := 21 } : Room) s m args below meth c H locs 0 0 (MQ below (QW (fg G) b out none) args s 0 0 (fb b)) (F0 m 44 ls []) := by
  have hx := F.1
  have hb := F.2.1
  unfold sh_X12_putRomanFigure_44 at h
  refine lv_iload_n hx hb dX12_putRomanFigure_44 rfl (lv_at hl 1 rfl) ?_
  refine lv_iconst (v := (4 : Int32)) hx hb dX12_putRomanFigure_45 (by decide) ?_
  refine lv_icmp_eq (tgt := 55) hx hb dX12_putRomanFigure_46 (by decide) (fun cc => ?_) (fun cc => ?_)
  · replace h := (if_pos cc).symm.trans h
    refine lv_iconst (v := (0 : Int32)) hx hb dX12_putRomanFigure_55 (by decide) ?_
    refine lv_goto (tgt := 62) hx hb dX12_putRomanFigure_56 (by decide) ?_
    refine lv_istore (lv' := [(5, .int (0 : Int32)), (0, .ref (b + 306)), (1, .int a1), (2, .int a2)]) hx hb dX12_putRomanFigure_62 hl (by decide) rfl (fun ls hl => ?_)
    refine lv_iconst (v := (0 : Int32)) hx hb dX12_putRomanFigure_64 (by decide) ?_
    refine lv_istore (lv' := [(6, .int (0 : Int32)), (5, .int (0 : Int32)), (0, .ref (b + 306)), (1, .int a1), (2, .int a2)]) hx hb dX12_putRomanFigure_65 hl (by decide) rfl (fun ls hl => ?_)
    exact wk_X12_putRomanFigure_67 F hr n _ _ _ _ _ _ h hW hS (lv_sub hl [2, 4, 1, 0] rfl)
  · replace h := (if_neg cc).symm.trans h
    refine lv_iload_n hx hb dX12_putRomanFigure_49 rfl (lv_at hl 1 rfl) ?_
    refine lv_bipush (v := (9 : Int32)) hx hb dX12_putRomanFigure_50 (by decide) ?_
    refine lv_icmp_ne (tgt := 59) hx hb dX12_putRomanFigure_52 (by decide) (fun cc => ?_) (fun cc => ?_)
    · replace h := (if_neg cc).symm.trans h
      refine lv_iload_n hx hb dX12_putRomanFigure_59 rfl (lv_at hl 1 rfl) ?_
      refine lv_iconst (v := (5 : Int32)) hx hb dX12_putRomanFigure_60 (by decide) ?_
      obtain ⟨v3, qv3, h⟩ := ob h
      obtain ⟨zv3, qv3⟩ := rm_some qv3
      refine lv_irem hx hb dX12_putRomanFigure_61 zv3 ?_
      rw [qv3]
      refine lv_istore (lv' := [(5, .int v3), (0, .ref (b + 306)), (1, .int a1), (2, .int a2)]) hx hb dX12_putRomanFigure_62 hl (by decide) rfl (fun ls hl => ?_)
      refine lv_iconst (v := (0 : Int32)) hx hb dX12_putRomanFigure_64 (by decide) ?_
      refine lv_istore (lv' := [(6, .int (0 : Int32)), (5, .int v3), (0, .ref (b + 306)), (1, .int a1), (2, .int a2)]) hx hb dX12_putRomanFigure_65 hl (by decide) rfl (fun ls hl => ?_)
      exact wk_X12_putRomanFigure_67 F hr n _ _ _ _ _ _ h hW hS (lv_sub hl [2, 4, 1, 0] rfl)
    · replace h := (if_pos cc).symm.trans h
      refine lv_iconst (v := (0 : Int32)) hx hb dX12_putRomanFigure_55 (by decide) ?_
      refine lv_goto (tgt := 62) hx hb dX12_putRomanFigure_56 (by decide) ?_
      refine lv_istore (lv' := [(5, .int (0 : Int32)), (0, .ref (b + 306)), (1, .int a1), (2, .int a2)]) hx hb dX12_putRomanFigure_62 hl (by decide) rfl (fun ls hl => ?_)
      refine lv_iconst (v := (0 : Int32)) hx hb dX12_putRomanFigure_64 (by decide) ?_
      refine lv_istore (lv' := [(6, .int (0 : Int32)), (5, .int (0 : Int32)), (0, .ref (b + 306)), (1, .int a1), (2, .int a2)]) hx hb dX12_putRomanFigure_65 hl (by decide) rfl (fun ls hl => ?_)
      exact wk_X12_putRomanFigure_67 F hr n _ _ _ _ _ _ h hW hS (lv_sub hl [2, 4, 1, 0] rfl)
set_option maxHeartbeats 4000000 in
set_option maxRecDepth 100000 in
theorem wk_X12_putRomanFigure_28 {n : Nat} {a1 : Int32} {a2 : Int32} {a3 : Int32} {a4 : Int32} {μ : Mm} {out : Mm} (F : FX (fg G) b RX12 cX12_putRomanFigure 7 p s m args meth c) (hr : meth.sig.returnType = none) (h : sh_X12_putRomanFigure_28 n a1 a2 a3 a4 μ = some out) (hW : WH (fg G) b μ H) (hS : va_S (fb b) s.heap H locs) (hl : lv_has ls 7 [(0, .ref (b + 306)), (1, .int a1), (2, .int a2), (3, .int a3)]) : W p l e ({ frames := 1, cells := 0, slots := 0, locals := 21 } : Room) s m args below meth c H locs 0 0 (MQ below (QW (fg G) b out none) args s 0 0 (fb b)) (F0 m 28 ls []) := by
  have hx := F.1
  have hb := F.2.1
  unfold sh_X12_putRomanFigure_28 at h
  refine lv_iload_n hx hb dX12_putRomanFigure_28 rfl (lv_at hl 1 rfl) ?_
  refine lv_iconst (v := (4 : Int32)) hx hb dX12_putRomanFigure_29 (by decide) ?_
  refine lv_icmp_lt (tgt := 44) hx hb dX12_putRomanFigure_30 (by decide) (fun cc => ?_) (fun cc => ?_)
  · replace h := (if_pos cc).symm.trans h
    exact wk_X12_putRomanFigure_44 F hr h hW hS (lv_sub hl [0, 1, 2] rfl)
  · replace h := (if_neg cc).symm.trans h
    refine lv_iload_n hx hb dX12_putRomanFigure_33 rfl (lv_at hl 1 rfl) ?_
    refine lv_bipush (v := (8 : Int32)) hx hb dX12_putRomanFigure_34 (by decide) ?_
    refine lv_icmp_gt (tgt := 44) hx hb dX12_putRomanFigure_36 (by decide) (fun cc => ?_) (fun cc => ?_)
    · replace h := (if_pos cc).symm.trans h
      exact wk_X12_putRomanFigure_44 F hr h hW hS (lv_sub hl [0, 1, 2] rfl)
    · replace h := (if_neg cc).symm.trans h
      refine lv_aload_n hx hb dX12_putRomanFigure_39 rfl (lv_at hl 0 rfl) ?_
      refine lv_iload_n hx hb dX12_putRomanFigure_40 rfl (lv_at hl 3 rfl) ?_
      obtain ⟨r4, qr4, h⟩ := ob h
      refine k_X12_put F qr4 q_1804 ⟨Nat.le_of_ble_eq_true rfl, Nat.le_of_ble_eq_true rfl, Nat.le_of_ble_eq_true rfl, Nat.le_of_ble_eq_true rfl⟩ hW hS hl.1 (Nat.le_of_ble_eq_true rfl) dX12_putRomanFigure_41 (fun H locs hW hS => ?_)
      exact wk_X12_putRomanFigure_44 F hr h hW hS (lv_sub hl [0, 1, 2] rfl)
set_option maxHeartbeats 4000000 in
set_option maxRecDepth 100000 in
theorem wk_X12_putRomanFigure_16 {n : Nat} {a1 : Int32} {a2 : Int32} {a3 : Int32} {a4 : Int32} {μ : Mm} {out : Mm} (F : FX (fg G) b RX12 cX12_putRomanFigure 7 p s m args meth c) (hr : meth.sig.returnType = none) (h : sh_X12_putRomanFigure_16 n a1 a2 a3 a4 μ = some out) (hW : WH (fg G) b μ H) (hS : va_S (fb b) s.heap H locs) (hl : lv_has ls 7 [(0, .ref (b + 306)), (1, .int a1), (2, .int a2), (3, .int a3), (4, .int a4)]) : W p l e ({ frames := 1, cells := 0, slots := 0, locals := 21 } : Room) s m args below meth c H locs 0 0 (MQ below (QW (fg G) b out none) args s 0 0 (fb b)) (F0 m 16 ls []) := by
  have hx := F.1
  have hb := F.2.1
  unfold sh_X12_putRomanFigure_16 at h
  refine lv_iload_n hx hb dX12_putRomanFigure_16 rfl (lv_at hl 1 rfl) ?_
  refine lv_bipush (v := (9 : Int32)) hx hb dX12_putRomanFigure_17 (by decide) ?_
  refine lv_icmp_ne (tgt := 28) hx hb dX12_putRomanFigure_19 (by decide) (fun cc => ?_) (fun cc => ?_)
  · replace h := (if_neg cc).symm.trans h
    exact wk_X12_putRomanFigure_28 F hr h hW hS (lv_sub hl [0, 1, 2, 3] rfl)
  · replace h := (if_pos cc).symm.trans h
    refine lv_aload_n hx hb dX12_putRomanFigure_22 rfl (lv_at hl 0 rfl) ?_
    refine lv_iload hx hb dX12_putRomanFigure_23 (lv_at hl 4 rfl) ?_
    obtain ⟨r5, qr5, h⟩ := ob h
    refine k_X12_put F qr5 q_1804 ⟨Nat.le_of_ble_eq_true rfl, Nat.le_of_ble_eq_true rfl, Nat.le_of_ble_eq_true rfl, Nat.le_of_ble_eq_true rfl⟩ hW hS hl.1 (Nat.le_of_ble_eq_true rfl) dX12_putRomanFigure_25 (fun H locs hW hS => ?_)
    exact wk_X12_putRomanFigure_28 F hr h hW hS (lv_sub hl [0, 1, 2, 3] rfl)
set_option maxHeartbeats 4000000 in
set_option maxRecDepth 100000 in
theorem wk_X12_putRomanFigure_11 {n : Nat} {a1 : Int32} {a2 : Int32} {a3 : Int32} {a4 : Int32} {μ : Mm} {out : Mm} (F : FX (fg G) b RX12 cX12_putRomanFigure 7 p s m args meth c) (hr : meth.sig.returnType = none) (h : sh_X12_putRomanFigure_11 n a1 a2 a3 a4 μ = some out) (hW : WH (fg G) b μ H) (hS : va_S (fb b) s.heap H locs) (hl : lv_has ls 7 [(0, .ref (b + 306)), (1, .int a1), (2, .int a2), (3, .int a3), (4, .int a4)]) : W p l e ({ frames := 1, cells := 0, slots := 0, locals := 21 } : Room) s m args below meth c H locs 0 0 (MQ below (QW (fg G) b out none) args s 0 0 (fb b)) (F0 m 11 ls []) := by
  have hx := F.1
  have hb := F.2.1
  unfold sh_X12_putRomanFigure_11 at h
  refine lv_aload_n hx hb dX12_putRomanFigure_11 rfl (lv_at hl 0 rfl) ?_
  refine lv_iload_n hx hb dX12_putRomanFigure_12 rfl (lv_at hl 2 rfl) ?_
  obtain ⟨r1, qr1, h⟩ := ob h
  refine k_X12_put F qr1 q_1804 ⟨Nat.le_of_ble_eq_true rfl, Nat.le_of_ble_eq_true rfl, Nat.le_of_ble_eq_true rfl, Nat.le_of_ble_eq_true rfl⟩ hW hS hl.1 (Nat.le_of_ble_eq_true rfl) dX12_putRomanFigure_13 (fun H locs hW hS => ?_)
  exact wk_X12_putRomanFigure_16 F hr h hW hS (lv_sub hl [0, 1, 2, 3, 4] rfl)
set_option maxHeartbeats 4000000 in
set_option maxRecDepth 100000 in
theorem wk_X12_putRomanFigure {n : Nat} {a1 : Int32} {a2 : Int32} {a3 : Int32} {a4 : Int32} {μ : Mm} {out : Mm} (F : FX (fg G) b RX12 cX12_putRomanFigure 7 p s m args meth c) (hr : meth.sig.returnType = none) (h : sh_X12_putRomanFigure n a1 a2 a3 a4 μ = some out) (hW : WH (fg G) b μ H) (hS : va_S (fb b) s.heap H locs) (hl : lv_has ls 7 [(0, .ref (b + 306)), (1, .int a1), (2, .int a2), (3, .int a3), (4, .int a4)]) : W p l e ({ frames := 1, cells := 0, slots := 0, locals := 21 } : Room) s m args below meth c H locs 0 0 (MQ below (QW (fg G) b out none) args s 0 0 (fb b)) (F0 m 0 ls []) := by
  have hx := F.1
  have hb := F.2.1
  unfold sh_X12_putRomanFigure at h
  refine lv_iload_n hx hb dX12_putRomanFigure_0 rfl (lv_at hl 1 rfl) ?_
  refine lv_iconst (v := (4 : Int32)) hx hb dX12_putRomanFigure_1 (by decide) ?_
  refine lv_icmp_eq (tgt := 11) hx hb dX12_putRomanFigure_2 (by decide) (fun cc => ?_) (fun cc => ?_)
  · replace h := (if_pos cc).symm.trans h
    exact wk_X12_putRomanFigure_11 F hr h hW hS (lv_sub hl [0, 1, 2, 3, 4] rfl)
  · replace h := (if_neg cc).symm.trans h
    refine lv_iload_n hx hb dX12_putRomanFigure_5 rfl (lv_at hl 1 rfl) ?_
    refine lv_bipush (v := (9 : Int32)) hx hb dX12_putRomanFigure_6 (by decide) ?_
    refine lv_icmp_ne (tgt := 16) hx hb dX12_putRomanFigure_8 (by decide) (fun cc => ?_) (fun cc => ?_)
    · replace h := (if_neg cc).symm.trans h
      exact wk_X12_putRomanFigure_16 F hr h hW hS (lv_sub hl [0, 1, 2, 3, 4] rfl)
    · replace h := (if_pos cc).symm.trans h
      exact wk_X12_putRomanFigure_11 F hr h hW hS (lv_sub hl [0, 1, 2, 3, 4] rfl)
set_option maxHeartbeats 4000000 in
set_option maxRecDepth 100000 in
theorem c_X12_putRomanFigure {l : Launch} {G : Gt} {b : Nat} {n : Nat} {a1 : Int32} {a2 : Int32} {a3 : Int32} {a4 : Int32} {μ : Mm} {out : Mm} (h : sh_X12_putRomanFigure n a1 a2 a3 a4 μ = some out) : Met l yX12_putRomanFigure (wU (Cond.code yX12_putRomanFigure cX12_putRomanFigure 7 none)) ({ frames := 1, cells := 0, slots := 0, locals := 21 } : Room) (PcW (fg G) b μ [.ref (b + 306), .int a1, .int a2, .int a3, .int a4]) (QW (fg G) b out none) 0 0 (fb b) :=
  met_of [.ref (b + 306), .int a1, .int a2, .int a3, .int a4] (by decide) (Nat.le_of_ble_eq_true rfl) (fun F hr hW hl => wk_X12_putRomanFigure F hr h hW va_S.rf hl)
set_option maxHeartbeats 4000000 in
set_option maxRecDepth 100000 in
theorem k_X12_putRomanFigure {own : String} {nL : Nat} (F : FX (fg G) b own cc nL p s m args meth c) {n : Nat} {a1 : Int32} {a2 : Int32} {a3 : Int32} {a4 : Int32} {μ : Mm} {out : Mm} (h : sh_X12_putRomanFigure n a1 a2 a3 a4 μ = some out) {index : Nat} (hl : Cond.methodLink own index yX12_putRomanFigure ∈ TBG) (hR : 1 + 1 ≤ R.frames ∧ 8 + (7 + 11) + 21 ≤ R.locals ∧ cells ≤ R.cells ∧ slots ≤ R.slots) (hW : WH (fg G) b μ H) (hS : va_S (fb b) s.heap H locs) (hsz : ls.size = nL) (hrest : (rest.map fun v => v.category).sum ≤ 8) (hdg : decode cc pc = .ok (.invokevirtual index, 3))
    (kk : ∀ (H1 : Heap) (locs1 : List Loc), WH (fg G) b out H1 → va_S (fb b) s.heap H1 locs1 → W p l e R s m args below meth c H1 locs1 cells slots Q (F0 m (pc + 3) ls (rest))) : W p l e R s m args below meth c H locs cells slots Q (F0 m pc ls (.int a4 :: .int a3 :: .int a2 :: .int a1 :: .ref (b + 306) :: rest)) :=
  f_callV (As := [.int a1, .int a2, .int a3, .int a4]) (ci := 12) (c_X12_putRomanFigure h) ⟨rfl, rfl⟩ rfl (ky_lm kyf_306 (by decide)) (wF_12 kyf_306) q_1810 qp_76 q_14 q_1811 rfl ⟨by decide +kernel, by decide +kernel, (show (parseMethodDescriptor yX12_putRomanFigure.desc).map (fun d => d.parameters.length) = some 4 by decide +kernel)⟩ F hl hR hW hS hsz hrest rfl hdg kk
set_option maxHeartbeats 4000000 in
set_option maxRecDepth 100000 in
theorem wk_X12_putRoman_2 {n : Nat} {a1 : Int32} {out : Mm} (F : FX (fg G) b RX12 cX12_putRoman 3 p s m args meth c) (hr : meth.sig.returnType = none) : ∀ (f : Nat) (x2 : Int32) (μ : Mm) (H : Heap) (locs : List Loc) (ls : Array Slot), sh_X12_putRoman_2 n a1 f x2 μ = some out → WH (fg G) b μ H → va_S (fb b) s.heap H locs → lv_has ls 3 [(0, .ref (b + 306)), (1, .int a1), (2, .int x2)] → W p l e ({ frames := 2, cells := 0, slots := 0, locals := 47 } : Room) s m args below meth c H locs 0 0 (MQ below (QW (fg G) b out none) args s 0 0 (fb b)) (F0 m 2 ls []) := by
  have hx := F.1
  have hb := F.2.1
  intro f
  induction f with
  | zero =>
    intro _ _ _ _ _ h
    rw [sh_X12_putRoman_2] at h
    cases h
  | succ f ih =>
    intro x2 μ H locs ls h hW hS hl
    rw [sh_X12_putRoman_2] at h
    have hk2 := ih
    refine lv_iload_n hx hb dX12_putRoman_2 rfl (lv_at hl 2 rfl) ?_
    refine lv_iload_n hx hb dX12_putRoman_3 rfl (lv_at hl 1 rfl) ?_
    refine lv_sipush (v := (1000 : Int32)) hx hb dX12_putRoman_4 (by decide) ?_
    obtain ⟨v1, qv1, h⟩ := ob h
    obtain ⟨zv1, qv1⟩ := dv_some qv1
    refine lv_idiv hx hb dX12_putRoman_7 zv1 ?_
    rw [qv1]
    refine lv_icmp_ge (tgt := 23) hx hb dX12_putRoman_8 (by decide) (fun cc => ?_) (fun cc => ?_)
    · replace h := (if_pos cc).symm.trans h
      refine lv_aload_n hx hb dX12_putRoman_23 rfl (lv_at hl 0 rfl) ?_
      refine lv_iload_n hx hb dX12_putRoman_24 rfl (lv_at hl 1 rfl) ?_
      refine lv_bipush (v := (100 : Int32)) hx hb dX12_putRoman_25 (by decide) ?_
      obtain ⟨v2, qv2, h⟩ := ob h
      obtain ⟨zv2, qv2⟩ := dv_some qv2
      refine lv_idiv hx hb dX12_putRoman_27 zv2 ?_
      rw [qv2]
      refine lv_bipush (v := (10 : Int32)) hx hb dX12_putRoman_28 (by decide) ?_
      obtain ⟨v3, qv3, h⟩ := ob h
      obtain ⟨zv3, qv3⟩ := rm_some qv3
      refine lv_irem hx hb dX12_putRoman_30 zv3 ?_
      rw [qv3]
      refine lv_bipush (v := (99 : Int32)) hx hb dX12_putRoman_31 (by decide) ?_
      refine lv_bipush (v := (100 : Int32)) hx hb dX12_putRoman_33 (by decide) ?_
      refine lv_bipush (v := (109 : Int32)) hx hb dX12_putRoman_35 (by decide) ?_
      obtain ⟨r4, qr4, h⟩ := ob h
      refine k_X12_putRomanFigure F qr4 q_1808 ⟨Nat.le_of_ble_eq_true rfl, Nat.le_of_ble_eq_true rfl, Nat.le_of_ble_eq_true rfl, Nat.le_of_ble_eq_true rfl⟩ hW hS hl.1 (Nat.le_of_ble_eq_true rfl) dX12_putRoman_37 (fun H locs hW hS => ?_)
      refine lv_aload_n hx hb dX12_putRoman_40 rfl (lv_at hl 0 rfl) ?_
      refine lv_iload_n hx hb dX12_putRoman_41 rfl (lv_at hl 1 rfl) ?_
      refine lv_bipush (v := (10 : Int32)) hx hb dX12_putRoman_42 (by decide) ?_
      obtain ⟨v5, qv5, h⟩ := ob h
      obtain ⟨zv5, qv5⟩ := dv_some qv5
      refine lv_idiv hx hb dX12_putRoman_44 zv5 ?_
      rw [qv5]
      refine lv_bipush (v := (10 : Int32)) hx hb dX12_putRoman_45 (by decide) ?_
      obtain ⟨v6, qv6, h⟩ := ob h
      obtain ⟨zv6, qv6⟩ := rm_some qv6
      refine lv_irem hx hb dX12_putRoman_47 zv6 ?_
      rw [qv6]
      refine lv_bipush (v := (120 : Int32)) hx hb dX12_putRoman_48 (by decide) ?_
      refine lv_bipush (v := (108 : Int32)) hx hb dX12_putRoman_50 (by decide) ?_
      refine lv_bipush (v := (99 : Int32)) hx hb dX12_putRoman_52 (by decide) ?_
      obtain ⟨r7, qr7, h⟩ := ob h
      refine k_X12_putRomanFigure F qr7 q_1808 ⟨Nat.le_of_ble_eq_true rfl, Nat.le_of_ble_eq_true rfl, Nat.le_of_ble_eq_true rfl, Nat.le_of_ble_eq_true rfl⟩ hW hS hl.1 (Nat.le_of_ble_eq_true rfl) dX12_putRoman_54 (fun H locs hW hS => ?_)
      refine lv_aload_n hx hb dX12_putRoman_57 rfl (lv_at hl 0 rfl) ?_
      refine lv_iload_n hx hb dX12_putRoman_58 rfl (lv_at hl 1 rfl) ?_
      refine lv_bipush (v := (10 : Int32)) hx hb dX12_putRoman_59 (by decide) ?_
      obtain ⟨v8, qv8, h⟩ := ob h
      obtain ⟨zv8, qv8⟩ := rm_some qv8
      refine lv_irem hx hb dX12_putRoman_61 zv8 ?_
      rw [qv8]
      refine lv_bipush (v := (105 : Int32)) hx hb dX12_putRoman_62 (by decide) ?_
      refine lv_bipush (v := (118 : Int32)) hx hb dX12_putRoman_64 (by decide) ?_
      refine lv_bipush (v := (120 : Int32)) hx hb dX12_putRoman_66 (by decide) ?_
      obtain ⟨r9, qr9, h⟩ := ob h
      refine k_X12_putRomanFigure F qr9 q_1808 ⟨Nat.le_of_ble_eq_true rfl, Nat.le_of_ble_eq_true rfl, Nat.le_of_ble_eq_true rfl, Nat.le_of_ble_eq_true rfl⟩ hW hS hl.1 (Nat.le_of_ble_eq_true rfl) dX12_putRoman_68 (fun H locs hW hS => ?_)
      cases h
      exact r_void F hr hW hS dX12_putRoman_71
    · replace h := (if_neg cc).symm.trans h
      refine lv_aload_n hx hb dX12_putRoman_11 rfl (lv_at hl 0 rfl) ?_
      refine lv_bipush (v := (109 : Int32)) hx hb dX12_putRoman_12 (by decide) ?_
      obtain ⟨r10, qr10, h⟩ := ob h
      refine k_X12_put F qr10 q_1804 ⟨Nat.le_of_ble_eq_true rfl, Nat.le_of_ble_eq_true rfl, Nat.le_of_ble_eq_true rfl, Nat.le_of_ble_eq_true rfl⟩ hW hS hl.1 (Nat.le_of_ble_eq_true rfl) dX12_putRoman_14 (fun H locs hW hS => ?_)
      refine lv_iinc (v := (x2 + (1 : Int32))) (lv' := [(2, .int (x2 + (1 : Int32))), (0, .ref (b + 306)), (1, .int a1)]) hx hb dX12_putRoman_17 hl (k := 2) rfl rfl (by decide) rfl (fun ls hl => ?_)
      refine lv_goto (tgt := 2) hx hb dX12_putRoman_20 (by decide) ?_
      exact hk2 _ _ _ _ _ h hW hS (lv_sub hl [1, 2, 0] rfl)
set_option maxHeartbeats 4000000 in
set_option maxRecDepth 100000 in
theorem wk_X12_putRoman {n : Nat} {a1 : Int32} {μ : Mm} {out : Mm} (F : FX (fg G) b RX12 cX12_putRoman 3 p s m args meth c) (hr : meth.sig.returnType = none) (h : sh_X12_putRoman n a1 μ = some out) (hW : WH (fg G) b μ H) (hS : va_S (fb b) s.heap H locs) (hl : lv_has ls 3 [(0, .ref (b + 306)), (1, .int a1)]) : W p l e ({ frames := 2, cells := 0, slots := 0, locals := 47 } : Room) s m args below meth c H locs 0 0 (MQ below (QW (fg G) b out none) args s 0 0 (fb b)) (F0 m 0 ls []) := by
  have hx := F.1
  have hb := F.2.1
  unfold sh_X12_putRoman at h
  refine lv_iconst (v := (0 : Int32)) hx hb dX12_putRoman_0 (by decide) ?_
  refine lv_istore_n (lv' := [(2, .int (0 : Int32)), (0, .ref (b + 306)), (1, .int a1)]) hx hb dX12_putRoman_1 rfl hl (by decide) rfl (fun ls hl => ?_)
  exact wk_X12_putRoman_2 F hr n _ _ _ _ _ h hW hS (lv_sub hl [1, 2, 0] rfl)
set_option maxHeartbeats 4000000 in
set_option maxRecDepth 100000 in
theorem c_X12_putRoman {l : Launch} {G : Gt} {b : Nat} {n : Nat} {a1 : Int32} {μ : Mm} {out : Mm} (h : sh_X12_putRoman n a1 μ = some out) : Met l yX12_putRoman (wU (Cond.code yX12_putRoman cX12_putRoman 3 none)) ({ frames := 2, cells := 0, slots := 0, locals := 47 } : Room) (PcW (fg G) b μ [.ref (b + 306), .int a1]) (QW (fg G) b out none) 0 0 (fb b) :=
  met_of [.ref (b + 306), .int a1] (by decide) (Nat.le_of_ble_eq_true rfl) (fun F hr hW hl => wk_X12_putRoman F hr h hW va_S.rf hl)
set_option maxHeartbeats 4000000 in
set_option maxRecDepth 100000 in
theorem k_X12_putRoman {own : String} {nL : Nat} (F : FX (fg G) b own cc nL p s m args meth c) {n : Nat} {a1 : Int32} {μ : Mm} {out : Mm} (h : sh_X12_putRoman n a1 μ = some out) {index : Nat} (hl : Cond.methodLink own index yX12_putRoman ∈ TBG) (hR : 2 + 1 ≤ R.frames ∧ 8 + (3 + 11) + 47 ≤ R.locals ∧ cells ≤ R.cells ∧ slots ≤ R.slots) (hW : WH (fg G) b μ H) (hS : va_S (fb b) s.heap H locs) (hsz : ls.size = nL) (hrest : (rest.map fun v => v.category).sum ≤ 8) (hdg : decode cc pc = .ok (.invokevirtual index, 3))
    (kk : ∀ (H1 : Heap) (locs1 : List Loc), WH (fg G) b out H1 → va_S (fb b) s.heap H1 locs1 → W p l e R s m args below meth c H1 locs1 cells slots Q (F0 m (pc + 3) ls (rest))) : W p l e R s m args below meth c H locs cells slots Q (F0 m pc ls (.int a1 :: .ref (b + 306) :: rest)) :=
  f_callV (As := [.int a1]) (ci := 12) (c_X12_putRoman h) ⟨rfl, rfl⟩ rfl (ky_lm kyf_306 (by decide)) (wF_12 kyf_306) q_1802 qp_74 q_14 q_1803 rfl ⟨by decide +kernel, by decide +kernel, (show (parseMethodDescriptor yX12_putRoman.desc).map (fun d => d.parameters.length) = some 1 by decide +kernel)⟩ F hl hR hW hS hsz hrest rfl hdg kk
set_option maxHeartbeats 4000000 in
set_option maxRecDepth 100000 in
theorem wk_X12_widthOf {a0 : Int32} {μ : Mm} {out : Int32} (F : FX (fg G) b RX12 cX12_widthOf 1 p s m args meth c) (hr : meth.sig.returnType = some .int) (h : sh_X12_widthOf a0 μ = some out) (hW : WH (fg G) b μ H) (hS : va_S (fb b) s.heap H locs) (hl : lv_has ls 1 [(0, .int a0)]) : W p l e ({ frames := 0, cells := 0, slots := 0, locals := 0 } : Room) s m args below meth c H locs 0 0 (MQ below (QW (fg G) b μ (some (.int out))) args s 0 0 (fb b)) (F0 m 0 ls []) := by
  have hx := F.1
  have hb := F.2.1
  unfold sh_X12_widthOf at h
  refine lv_iload_n hx hb dX12_widthOf_0 rfl (lv_at hl 0 rfl) ?_
  refine lv_bipush (v := (102 : Int32)) hx hb dX12_widthOf_1 (by decide) ?_
  refine lv_icmp_eq (tgt := 54) hx hb dX12_widthOf_3 (by decide) (fun cc => ?_) (fun cc => ?_)
  · replace h := (if_pos cc).symm.trans h
    refine lv_iconst (v := (1 : Int32)) hx hb dX12_widthOf_54 (by decide) ?_
    cases h
    exact r_int F hr hW hS dX12_widthOf_55
  · replace h := (if_neg cc).symm.trans h
    refine lv_iload_n hx hb dX12_widthOf_6 rfl (lv_at hl 0 rfl) ?_
    refine lv_bipush (v := (105 : Int32)) hx hb dX12_widthOf_7 (by decide) ?_
    refine lv_icmp_eq (tgt := 54) hx hb dX12_widthOf_9 (by decide) (fun cc => ?_) (fun cc => ?_)
    · replace h := (if_pos cc).symm.trans h
      refine lv_iconst (v := (1 : Int32)) hx hb dX12_widthOf_54 (by decide) ?_
      cases h
      exact r_int F hr hW hS dX12_widthOf_55
    · replace h := (if_neg cc).symm.trans h
      refine lv_iload_n hx hb dX12_widthOf_12 rfl (lv_at hl 0 rfl) ?_
      refine lv_bipush (v := (106 : Int32)) hx hb dX12_widthOf_13 (by decide) ?_
      refine lv_icmp_eq (tgt := 54) hx hb dX12_widthOf_15 (by decide) (fun cc => ?_) (fun cc => ?_)
      · replace h := (if_pos cc).symm.trans h
        refine lv_iconst (v := (1 : Int32)) hx hb dX12_widthOf_54 (by decide) ?_
        cases h
        exact r_int F hr hW hS dX12_widthOf_55
      · replace h := (if_neg cc).symm.trans h
        refine lv_iload_n hx hb dX12_widthOf_18 rfl (lv_at hl 0 rfl) ?_
        refine lv_bipush (v := (108 : Int32)) hx hb dX12_widthOf_19 (by decide) ?_
        refine lv_icmp_eq (tgt := 54) hx hb dX12_widthOf_21 (by decide) (fun cc => ?_) (fun cc => ?_)
        · replace h := (if_pos cc).symm.trans h
          refine lv_iconst (v := (1 : Int32)) hx hb dX12_widthOf_54 (by decide) ?_
          cases h
          exact r_int F hr hW hS dX12_widthOf_55
        · replace h := (if_neg cc).symm.trans h
          refine lv_iload_n hx hb dX12_widthOf_24 rfl (lv_at hl 0 rfl) ?_
          refine lv_bipush (v := (114 : Int32)) hx hb dX12_widthOf_25 (by decide) ?_
          refine lv_icmp_eq (tgt := 54) hx hb dX12_widthOf_27 (by decide) (fun cc => ?_) (fun cc => ?_)
          · replace h := (if_pos cc).symm.trans h
            refine lv_iconst (v := (1 : Int32)) hx hb dX12_widthOf_54 (by decide) ?_
            cases h
            exact r_int F hr hW hS dX12_widthOf_55
          · replace h := (if_neg cc).symm.trans h
            refine lv_iload_n hx hb dX12_widthOf_30 rfl (lv_at hl 0 rfl) ?_
            refine lv_bipush (v := (116 : Int32)) hx hb dX12_widthOf_31 (by decide) ?_
            refine lv_icmp_eq (tgt := 54) hx hb dX12_widthOf_33 (by decide) (fun cc => ?_) (fun cc => ?_)
            · replace h := (if_pos cc).symm.trans h
              refine lv_iconst (v := (1 : Int32)) hx hb dX12_widthOf_54 (by decide) ?_
              cases h
              exact r_int F hr hW hS dX12_widthOf_55
            · replace h := (if_neg cc).symm.trans h
              refine lv_iload_n hx hb dX12_widthOf_36 rfl (lv_at hl 0 rfl) ?_
              refine lv_bipush (v := (49 : Int32)) hx hb dX12_widthOf_37 (by decide) ?_
              refine lv_icmp_eq (tgt := 54) hx hb dX12_widthOf_39 (by decide) (fun cc => ?_) (fun cc => ?_)
              · replace h := (if_pos cc).symm.trans h
                refine lv_iconst (v := (1 : Int32)) hx hb dX12_widthOf_54 (by decide) ?_
                cases h
                exact r_int F hr hW hS dX12_widthOf_55
              · replace h := (if_neg cc).symm.trans h
                refine lv_iload_n hx hb dX12_widthOf_42 rfl (lv_at hl 0 rfl) ?_
                refine lv_bipush (v := (46 : Int32)) hx hb dX12_widthOf_43 (by decide) ?_
                refine lv_icmp_eq (tgt := 54) hx hb dX12_widthOf_45 (by decide) (fun cc => ?_) (fun cc => ?_)
                · replace h := (if_pos cc).symm.trans h
                  refine lv_iconst (v := (1 : Int32)) hx hb dX12_widthOf_54 (by decide) ?_
                  cases h
                  exact r_int F hr hW hS dX12_widthOf_55
                · replace h := (if_neg cc).symm.trans h
                  refine lv_iload_n hx hb dX12_widthOf_48 rfl (lv_at hl 0 rfl) ?_
                  refine lv_bipush (v := (32 : Int32)) hx hb dX12_widthOf_49 (by decide) ?_
                  refine lv_icmp_ne (tgt := 56) hx hb dX12_widthOf_51 (by decide) (fun cc => ?_) (fun cc => ?_)
                  · replace h := (if_neg cc).symm.trans h
                    refine lv_iload_n hx hb dX12_widthOf_56 rfl (lv_at hl 0 rfl) ?_
                    refine lv_bipush (v := (109 : Int32)) hx hb dX12_widthOf_57 (by decide) ?_
                    refine lv_icmp_eq (tgt := 68) hx hb dX12_widthOf_59 (by decide) (fun cc => ?_) (fun cc => ?_)
                    · replace h := (if_pos cc).symm.trans h
                      refine lv_iconst (v := (3 : Int32)) hx hb dX12_widthOf_68 (by decide) ?_
                      refine lv_goto (tgt := 73) hx hb dX12_widthOf_69 (by decide) ?_
                      cases h
                      exact r_int F hr hW hS dX12_widthOf_73
                    · replace h := (if_neg cc).symm.trans h
                      refine lv_iload_n hx hb dX12_widthOf_62 rfl (lv_at hl 0 rfl) ?_
                      refine lv_bipush (v := (119 : Int32)) hx hb dX12_widthOf_63 (by decide) ?_
                      refine lv_icmp_ne (tgt := 72) hx hb dX12_widthOf_65 (by decide) (fun cc => ?_) (fun cc => ?_)
                      · replace h := (if_neg cc).symm.trans h
                        refine lv_iconst (v := (2 : Int32)) hx hb dX12_widthOf_72 (by decide) ?_
                        cases h
                        exact r_int F hr hW hS dX12_widthOf_73
                      · replace h := (if_pos cc).symm.trans h
                        refine lv_iconst (v := (3 : Int32)) hx hb dX12_widthOf_68 (by decide) ?_
                        refine lv_goto (tgt := 73) hx hb dX12_widthOf_69 (by decide) ?_
                        cases h
                        exact r_int F hr hW hS dX12_widthOf_73
                  · replace h := (if_pos cc).symm.trans h
                    refine lv_iconst (v := (1 : Int32)) hx hb dX12_widthOf_54 (by decide) ?_
                    cases h
                    exact r_int F hr hW hS dX12_widthOf_55
set_option maxHeartbeats 4000000 in
set_option maxRecDepth 100000 in
theorem c_X12_widthOf {l : Launch} {G : Gt} {b : Nat} {a0 : Int32} {μ : Mm} {out : Int32} (h : sh_X12_widthOf a0 μ = some out) : Met l yX12_widthOf (wU (Cond.code yX12_widthOf cX12_widthOf 1 (some .int))) ({ frames := 0, cells := 0, slots := 0, locals := 0 } : Room) (PcW (fg G) b μ [.int a0]) (QW (fg G) b μ (some (.int out))) 0 0 (fb b) :=
  met_of [.int a0] (by decide) (Nat.le_of_ble_eq_true rfl) (fun F hr hW hl => wk_X12_widthOf F hr h hW va_S.rf hl)
set_option maxHeartbeats 4000000 in
set_option maxRecDepth 100000 in
theorem k_X12_widthOf {nL : Nat} (F : FX (fg G) b RX12 cc nL p s m args meth c) {a0 : Int32} {μ : Mm} {out : Int32} (h : sh_X12_widthOf a0 μ = some out) {index : Nat} (hl : Cond.methodLink RX12 index yX12_widthOf ∈ TBG) (hR : 0 + 1 ≤ R.frames ∧ 8 + (1 + 11) + 0 ≤ R.locals ∧ cells ≤ R.cells ∧ slots ≤ R.slots) (hW : WH (fg G) b μ H) (hS : va_S (fb b) s.heap H locs) (hsz : ls.size = nL) (hrest : (rest.map fun v => v.category).sum ≤ 8) (hdg : decode cc pc = .ok (.invokestatic index, 3))
    (kk : ∀ (H1 : Heap) (locs1 : List Loc), WH (fg G) b μ H1 → va_S (fb b) s.heap H1 locs1 → W p l e R s m args below meth c H1 locs1 cells slots Q (F0 m (pc + 3) ls (.int out :: rest))) : W p l e R s m args below meth c H locs cells slots Q (F0 m pc ls (.int a0 :: rest)) :=
  f_callS (As := [.int a0]) (c_X12_widthOf h) ⟨rfl, rfl⟩ q_1821 q_14 q_1822 rfl ⟨by decide +kernel, by decide +kernel, (show (parseMethodDescriptor yX12_widthOf.desc).map (fun d => d.parameters.length) = some 1 by decide +kernel)⟩ F hl hR hW hS hsz hrest rfl hdg kk
set_option maxHeartbeats 4000000 in
set_option maxRecDepth 100000 in
theorem wk_X12_textWidth_4 {n : Nat} {a1 : Int32} {μ : Mm} {out : Int32} (F : FX (fg G) b RX12 cX12_textWidth 4 p s m args meth c) (hr : meth.sig.returnType = some .int) : ∀ (f : Nat) (x2 : Int32) (x3 : Int32) (H : Heap) (locs : List Loc) (ls : Array Slot), sh_X12_textWidth_4 n a1 μ f x2 x3 = some out → WH (fg G) b μ H → va_S (fb b) s.heap H locs → lv_has ls 4 [(0, .ref (b + 306)), (2, .int x2), (3, .int x3)] → W p l e ({ frames := 1, cells := 0, slots := 0, locals := 20 } : Room) s m args below meth c H locs 0 0 (MQ below (QW (fg G) b μ (some (.int out))) args s 0 0 (fb b)) (F0 m 4 ls []) := by
  have hx := F.1
  have hb := F.2.1
  intro f
  induction f with
  | zero =>
    intro _ _ _ _ _ h
    rw [sh_X12_textWidth_4] at h
    cases h
  | succ f ih =>
    intro x2 x3  H locs ls h hW hS hl
    rw [sh_X12_textWidth_4] at h
    have hk4 := ih
    refine lv_iload_n hx hb dX12_textWidth_4 rfl (lv_at hl 2 rfl) ?_
    refine lv_aload_n hx hb dX12_textWidth_5 rfl (lv_at hl 0 rfl) ?_
    refine fl_get12 (v := .int (μ.1 306 17)) kyf_306 F hW 17 (by decide) q_1488 rfl rfl dX12_textWidth_6 ?_
    refine lv_icmp_ge (tgt := 30) hx hb dX12_textWidth_9 (by decide) (fun cc => ?_) (fun cc => ?_)
    · replace h := (if_pos cc).symm.trans h
      refine lv_iload_n hx hb dX12_textWidth_30 rfl (lv_at hl 1 rfl) ?_
      cases h
      exact r_int F hr hW hS dX12_textWidth_31
    · replace h := (if_neg cc).symm.trans h
      refine lv_iload_n hx hb dX12_textWidth_12 rfl (lv_at hl 1 rfl) ?_
      refine lv_aload_n hx hb dX12_textWidth_13 rfl (lv_at hl 0 rfl) ?_
      refine fl_get12 (v := .ref (b + 310)) kyf_306 F hW 16 (by decide) q_1487 rfl rfl dX12_textWidth_14 ?_
      refine lv_iload_n hx hb dX12_textWidth_17 rfl (lv_at hl 2 rfl) ?_
      obtain ⟨v1, qv1, h⟩ := ob h
      refine fm_bald kyf_310 F hW qv1 dX12_textWidth_18 ?_
      obtain ⟨r2, qr2, h⟩ := ob h
      refine k_X12_widthOf F qr2 q_1820 ⟨Nat.le_of_ble_eq_true rfl, Nat.le_of_ble_eq_true rfl, Nat.le_of_ble_eq_true rfl, Nat.le_of_ble_eq_true rfl⟩ hW hS hl.1 (Nat.le_of_ble_eq_true rfl) dX12_textWidth_19 (fun H locs hW hS => ?_)
      refine lv_iadd hx hb dX12_textWidth_22 ?_
      obtain ⟨v3, ev3⟩ : ∃ y, y = (x2 + r2) := ⟨_, rfl⟩
      have h := nm_at ev3 h
      rw [← ev3]
      refine lv_istore_n (lv' := [(2, .int v3), (0, .ref (b + 306)), (3, .int x3)]) hx hb dX12_textWidth_23 rfl hl (by decide) rfl (fun ls hl => ?_)
      refine lv_iinc (v := (x3 + (1 : Int32))) (lv' := [(3, .int (x3 + (1 : Int32))), (2, .int v3), (0, .ref (b + 306))]) hx hb dX12_textWidth_24 hl (k := 2) rfl rfl (by decide) rfl (fun ls hl => ?_)
      refine lv_goto (tgt := 4) hx hb dX12_textWidth_27 (by decide) ?_
      exact hk4 _ _ _ _ _ h hW hS (lv_sub hl [2, 1, 0] rfl)
set_option maxHeartbeats 4000000 in
set_option maxRecDepth 100000 in
theorem wk_X12_textWidth {n : Nat} {a1 : Int32} {μ : Mm} {out : Int32} (F : FX (fg G) b RX12 cX12_textWidth 4 p s m args meth c) (hr : meth.sig.returnType = some .int) (h : sh_X12_textWidth n a1 μ = some out) (hW : WH (fg G) b μ H) (hS : va_S (fb b) s.heap H locs) (hl : lv_has ls 4 [(0, .ref (b + 306)), (1, .int a1)]) : W p l e ({ frames := 1, cells := 0, slots := 0, locals := 20 } : Room) s m args below meth c H locs 0 0 (MQ below (QW (fg G) b μ (some (.int out))) args s 0 0 (fb b)) (F0 m 0 ls []) := by
  have hx := F.1
  have hb := F.2.1
  unfold sh_X12_textWidth at h
  refine lv_iconst (v := (0 : Int32)) hx hb dX12_textWidth_0 (by decide) ?_
  refine lv_istore_n (lv' := [(2, .int (0 : Int32)), (0, .ref (b + 306)), (1, .int a1)]) hx hb dX12_textWidth_1 rfl hl (by decide) rfl (fun ls hl => ?_)
  refine lv_iload_n hx hb dX12_textWidth_2 rfl (lv_at hl 2 rfl) ?_
  refine lv_istore_n (lv' := [(3, .int a1), (2, .int (0 : Int32)), (0, .ref (b + 306)), (1, .int a1)]) hx hb dX12_textWidth_3 rfl hl (by decide) rfl (fun ls hl => ?_)
  exact wk_X12_textWidth_4 F hr n _ _ _ _ _ h hW hS (lv_sub hl [2, 1, 0] rfl)
set_option maxHeartbeats 4000000 in
set_option maxRecDepth 100000 in
theorem c_X12_textWidth {l : Launch} {G : Gt} {b : Nat} {n : Nat} {a1 : Int32} {μ : Mm} {out : Int32} (h : sh_X12_textWidth n a1 μ = some out) : Met l yX12_textWidth (wU (Cond.code yX12_textWidth cX12_textWidth 4 (some .int))) ({ frames := 1, cells := 0, slots := 0, locals := 20 } : Room) (PcW (fg G) b μ [.ref (b + 306), .int a1]) (QW (fg G) b μ (some (.int out))) 0 0 (fb b) :=
  met_of [.ref (b + 306), .int a1] (by decide) (Nat.le_of_ble_eq_true rfl) (fun F hr hW hl => wk_X12_textWidth F hr h hW va_S.rf hl)
set_option maxHeartbeats 4000000 in
set_option maxRecDepth 100000 in
theorem k_X12_textWidth {own : String} {nL : Nat} (F : FX (fg G) b own cc nL p s m args meth c) {n : Nat} {a1 : Int32} {μ : Mm} {out : Int32} (h : sh_X12_textWidth n a1 μ = some out) {index : Nat} (hl : Cond.methodLink own index yX12_textWidth ∈ TBG) (hR : 1 + 1 ≤ R.frames ∧ 8 + (4 + 11) + 20 ≤ R.locals ∧ cells ≤ R.cells ∧ slots ≤ R.slots) (hW : WH (fg G) b μ H) (hS : va_S (fb b) s.heap H locs) (hsz : ls.size = nL) (hrest : (rest.map fun v => v.category).sum ≤ 8) (hdg : decode cc pc = .ok (.invokevirtual index, 3))
    (kk : ∀ (H1 : Heap) (locs1 : List Loc), WH (fg G) b μ H1 → va_S (fb b) s.heap H1 locs1 → W p l e R s m args below meth c H1 locs1 cells slots Q (F0 m (pc + 3) ls (.int out :: rest))) : W p l e R s m args below meth c H locs cells slots Q (F0 m pc ls (.int a1 :: .ref (b + 306) :: rest)) :=
  f_callV (As := [.int a1]) (ci := 12) (c_X12_textWidth h) ⟨rfl, rfl⟩ rfl (ky_lm kyf_306 (by decide)) (wF_12 kyf_306) q_1818 qp_78 q_14 q_1819 rfl ⟨by decide +kernel, by decide +kernel, (show (parseMethodDescriptor yX12_textWidth.desc).map (fun d => d.parameters.length) = some 1 by decide +kernel)⟩ F hl hR hW hS hsz hrest rfl hdg kk
set_option maxHeartbeats 4000000 in
set_option maxRecDepth 100000 in
theorem wk_X12_parentOf_4 {n : Nat} {a1 : Int32} {μ : Mm} {out : Int32} (F : FX (fg G) b RX12 cX12_parentOf 3 p s m args meth c) (hr : meth.sig.returnType = some .int) : ∀ (f : Nat) (x2 : Int32) (H : Heap) (locs : List Loc) (ls : Array Slot), sh_X12_parentOf_4 n a1 μ f x2 = some out → WH (fg G) b μ H → va_S (fb b) s.heap H locs → lv_has ls 3 [(0, .ref (b + 306)), (1, .int a1), (2, .int x2)] → W p l e ({ frames := 1, cells := 0, slots := 0, locals := 22 } : Room) s m args below meth c H locs 0 0 (MQ below (QW (fg G) b μ (some (.int out))) args s 0 0 (fb b)) (F0 m 4 ls []) := by
  have hx := F.1
  have hb := F.2.1
  intro f
  induction f with
  | zero =>
    intro _ _ _ _ h
    rw [sh_X12_parentOf_4] at h
    cases h
  | succ f ih =>
    intro x2  H locs ls h hW hS hl
    rw [sh_X12_parentOf_4] at h
    have hk4 := ih
    refine lv_iload_n hx hb dX12_parentOf_4 rfl (lv_at hl 2 rfl) ?_
    refine lv_if_lt (tgt := 46) hx hb dX12_parentOf_5 (by decide) (fun cc => ?_) (fun cc => ?_)
    · replace h := (if_pos cc).symm.trans h
      refine lv_iconst (v := (-1 : Int32)) hx hb dX12_parentOf_46 (by decide) ?_
      cases h
      exact r_int F hr hW hS dX12_parentOf_47
    · replace h := (if_neg cc).symm.trans h
      refine lv_aload_n hx hb dX12_parentOf_8 rfl (lv_at hl 0 rfl) ?_
      refine lv_iload_n hx hb dX12_parentOf_9 rfl (lv_at hl 2 rfl) ?_
      refine lv_iconst (v := (2 : Int32)) hx hb dX12_parentOf_10 (by decide) ?_
      obtain ⟨r2, qr2, h⟩ := ob h
      refine k_X12_of F qr2 q_1735 ⟨Nat.le_of_ble_eq_true rfl, Nat.le_of_ble_eq_true rfl, Nat.le_of_ble_eq_true rfl, Nat.le_of_ble_eq_true rfl⟩ hW hS hl.1 (Nat.le_of_ble_eq_true rfl) dX12_parentOf_11 (fun H locs hW hS => ?_)
      refine lv_aload_n hx hb dX12_parentOf_14 rfl (lv_at hl 0 rfl) ?_
      refine lv_iload_n hx hb dX12_parentOf_15 rfl (lv_at hl 1 rfl) ?_
      refine lv_iconst (v := (2 : Int32)) hx hb dX12_parentOf_16 (by decide) ?_
      obtain ⟨r3, qr3, h⟩ := ob h
      refine k_X12_of F qr3 q_1735 ⟨Nat.le_of_ble_eq_true rfl, Nat.le_of_ble_eq_true rfl, Nat.le_of_ble_eq_true rfl, Nat.le_of_ble_eq_true rfl⟩ hW hS hl.1 (Nat.le_of_ble_eq_true rfl) dX12_parentOf_17 (fun H locs hW hS => ?_)
      refine lv_icmp_ne (tgt := 46) hx hb dX12_parentOf_20 (by decide) (fun cc => ?_) (fun cc => ?_)
      · replace h := (if_neg cc).symm.trans h
        refine lv_iconst (v := (-1 : Int32)) hx hb dX12_parentOf_46 (by decide) ?_
        cases h
        exact r_int F hr hW hS dX12_parentOf_47
      · replace h := (if_pos cc).symm.trans h
        refine lv_aload_n hx hb dX12_parentOf_23 rfl (lv_at hl 0 rfl) ?_
        refine lv_iload_n hx hb dX12_parentOf_24 rfl (lv_at hl 2 rfl) ?_
        refine lv_iconst (v := (0 : Int32)) hx hb dX12_parentOf_25 (by decide) ?_
        obtain ⟨r4, qr4, h⟩ := ob h
        refine k_X12_of F qr4 q_1735 ⟨Nat.le_of_ble_eq_true rfl, Nat.le_of_ble_eq_true rfl, Nat.le_of_ble_eq_true rfl, Nat.le_of_ble_eq_true rfl⟩ hW hS hl.1 (Nat.le_of_ble_eq_true rfl) dX12_parentOf_26 (fun H locs hW hS => ?_)
        refine lv_aload_n hx hb dX12_parentOf_29 rfl (lv_at hl 0 rfl) ?_
        refine lv_iload_n hx hb dX12_parentOf_30 rfl (lv_at hl 1 rfl) ?_
        refine lv_iconst (v := (0 : Int32)) hx hb dX12_parentOf_31 (by decide) ?_
        obtain ⟨r5, qr5, h⟩ := ob h
        refine k_X12_of F qr5 q_1735 ⟨Nat.le_of_ble_eq_true rfl, Nat.le_of_ble_eq_true rfl, Nat.le_of_ble_eq_true rfl, Nat.le_of_ble_eq_true rfl⟩ hW hS hl.1 (Nat.le_of_ble_eq_true rfl) dX12_parentOf_32 (fun H locs hW hS => ?_)
        refine lv_icmp_ge (tgt := 40) hx hb dX12_parentOf_35 (by decide) (fun cc => ?_) (fun cc => ?_)
        · replace h := (if_pos cc).symm.trans h
          refine lv_iinc (v := (x2 + (-1 : Int32))) (lv' := [(2, .int (x2 + (-1 : Int32))), (0, .ref (b + 306)), (1, .int a1)]) hx hb dX12_parentOf_40 hl (k := 2) rfl rfl (by decide) rfl (fun ls hl => ?_)
          refine lv_goto (tgt := 4) hx hb dX12_parentOf_43 (by decide) ?_
          exact hk4 _ _ _ _ h hW hS (lv_sub hl [1, 2, 0] rfl)
        · replace h := (if_neg cc).symm.trans h
          refine lv_iload_n hx hb dX12_parentOf_38 rfl (lv_at hl 2 rfl) ?_
          cases h
          exact r_int F hr hW hS dX12_parentOf_39
set_option maxHeartbeats 4000000 in
set_option maxRecDepth 100000 in
theorem wk_X12_parentOf {n : Nat} {a1 : Int32} {μ : Mm} {out : Int32} (F : FX (fg G) b RX12 cX12_parentOf 3 p s m args meth c) (hr : meth.sig.returnType = some .int) (h : sh_X12_parentOf n a1 μ = some out) (hW : WH (fg G) b μ H) (hS : va_S (fb b) s.heap H locs) (hl : lv_has ls 3 [(0, .ref (b + 306)), (1, .int a1)]) : W p l e ({ frames := 1, cells := 0, slots := 0, locals := 22 } : Room) s m args below meth c H locs 0 0 (MQ below (QW (fg G) b μ (some (.int out))) args s 0 0 (fb b)) (F0 m 0 ls []) := by
  have hx := F.1
  have hb := F.2.1
  unfold sh_X12_parentOf at h
  refine lv_iload_n hx hb dX12_parentOf_0 rfl (lv_at hl 1 rfl) ?_
  refine lv_iconst (v := (1 : Int32)) hx hb dX12_parentOf_1 (by decide) ?_
  refine lv_isub hx hb dX12_parentOf_2 ?_
  obtain ⟨v1, ev1⟩ : ∃ y, y = (a1 - (1 : Int32)) := ⟨_, rfl⟩
  have h := nm_at ev1 h
  rw [← ev1]
  refine lv_istore_n (lv' := [(2, .int v1), (0, .ref (b + 306)), (1, .int a1)]) hx hb dX12_parentOf_3 rfl hl (by decide) rfl (fun ls hl => ?_)
  exact wk_X12_parentOf_4 F hr n _ _ _ _ h hW hS (lv_sub hl [1, 2, 0] rfl)
set_option maxHeartbeats 4000000 in
set_option maxRecDepth 100000 in
theorem c_X12_parentOf {l : Launch} {G : Gt} {b : Nat} {n : Nat} {a1 : Int32} {μ : Mm} {out : Int32} (h : sh_X12_parentOf n a1 μ = some out) : Met l yX12_parentOf (wU (Cond.code yX12_parentOf cX12_parentOf 3 (some .int))) ({ frames := 1, cells := 0, slots := 0, locals := 22 } : Room) (PcW (fg G) b μ [.ref (b + 306), .int a1]) (QW (fg G) b μ (some (.int out))) 0 0 (fb b) :=
  met_of [.ref (b + 306), .int a1] (by decide) (Nat.le_of_ble_eq_true rfl) (fun F hr hW hl => wk_X12_parentOf F hr h hW va_S.rf hl)
set_option maxHeartbeats 4000000 in
set_option maxRecDepth 100000 in
theorem k_X12_parentOf {own : String} {nL : Nat} (F : FX (fg G) b own cc nL p s m args meth c) {n : Nat} {a1 : Int32} {μ : Mm} {out : Int32} (h : sh_X12_parentOf n a1 μ = some out) {index : Nat} (hl : Cond.methodLink own index yX12_parentOf ∈ TBG) (hR : 1 + 1 ≤ R.frames ∧ 8 + (3 + 11) + 22 ≤ R.locals ∧ cells ≤ R.cells ∧ slots ≤ R.slots) (hW : WH (fg G) b μ H) (hS : va_S (fb b) s.heap H locs) (hsz : ls.size = nL) (hrest : (rest.map fun v => v.category).sum ≤ 8) (hdg : decode cc pc = .ok (.invokevirtual index, 3))
    (kk : ∀ (H1 : Heap) (locs1 : List Loc), WH (fg G) b μ H1 → va_S (fb b) s.heap H1 locs1 → W p l e R s m args below meth c H1 locs1 cells slots Q (F0 m (pc + 3) ls (.int out :: rest))) : W p l e R s m args below meth c H locs cells slots Q (F0 m pc ls (.int a1 :: .ref (b + 306) :: rest)) :=
  f_callV (As := [.int a1]) (ci := 12) (c_X12_parentOf h) ⟨rfl, rfl⟩ rfl (ky_lm kyf_306 (by decide)) (wF_12 kyf_306) q_1774 qp_67 q_14 q_1775 rfl ⟨by decide +kernel, by decide +kernel, (show (parseMethodDescriptor yX12_parentOf.desc).map (fun d => d.parameters.length) = some 1 by decide +kernel)⟩ F hl hR hW hS hsz hrest rfl hdg kk
set_option maxHeartbeats 4000000 in
set_option maxRecDepth 100000 in
theorem wk_X12_layLabels_33 {n : Nat} {k2 : (Int32 → Mm → Option Mm)} {out : Mm} (F : FX (fg G) b RX12 cX12_layLabels 3 p s m args meth c) (hr : meth.sig.returnType = none) (hk2 : ∀ (x1 : Int32) (μ : Mm) (H : Heap) (locs : List Loc) (ls : Array Slot), k2 x1 μ = some out → WH (fg G) b μ H → va_S (fb b) s.heap H locs → lv_has ls 3 [(0, .ref (b + 306)), (1, .int x1)] → W p l e ({ frames := 2, cells := 0, slots := 0, locals := 44 } : Room) s m args below meth c H locs 0 0 (MQ below (QW (fg G) b out none) args s 0 0 (fb b)) (F0 m 2 ls [])) : ∀ (f : Nat) (x1 : Int32) (x2 : Int32) (μ : Mm) (H : Heap) (locs : List Loc) (ls : Array Slot), sh_X12_layLabels_33 n k2 f x1 x2 μ = some out → WH (fg G) b μ H → va_S (fb b) s.heap H locs → lv_has ls 3 [(0, .ref (b + 306)), (1, .int x1), (2, .int x2)] → W p l e ({ frames := 2, cells := 0, slots := 0, locals := 44 } : Room) s m args below meth c H locs 0 0 (MQ below (QW (fg G) b out none) args s 0 0 (fb b)) (F0 m 33 ls []) := by
  have hx := F.1
  have hb := F.2.1
  intro f
  induction f with
  | zero =>
    intro _ _ _ _ _ _ h
    rw [sh_X12_layLabels_33] at h
    cases h
  | succ f ih =>
    intro x1 x2 μ H locs ls h hW hS hl
    rw [sh_X12_layLabels_33] at h
    have hk33 := ih
    refine lv_iload_n hx hb dX12_layLabels_33 rfl (lv_at hl 2 rfl) ?_
    refine lv_iload_n hx hb dX12_layLabels_34 rfl (lv_at hl 1 rfl) ?_
    refine lv_icmp_ge (tgt := 88) hx hb dX12_layLabels_35 (by decide) (fun cc => ?_) (fun cc => ?_)
    · replace h := (if_pos cc).symm.trans h
      refine lv_iinc (v := (x1 + (1 : Int32))) (lv' := [(1, .int (x1 + (1 : Int32))), (0, .ref (b + 306)), (2, .int x2)]) hx hb dX12_layLabels_88 hl (k := 1) rfl rfl (by decide) rfl (fun ls hl => ?_)
      refine lv_goto (tgt := 2) hx hb dX12_layLabels_91 (by decide) ?_
      exact hk2 _ _ _ _ _ h hW hS (lv_sub hl [1, 0] rfl)
    · replace h := (if_neg cc).symm.trans h
      refine lv_aload_n hx hb dX12_layLabels_38 rfl (lv_at hl 0 rfl) ?_
      refine fl_get12 (v := .ref (b + 312)) kyf_306 F hW 19 (by decide) q_1490 rfl rfl dX12_layLabels_39 ?_
      refine lv_iload_n hx hb dX12_layLabels_42 rfl (lv_at hl 1 rfl) ?_
      refine lv_dup2_11 hx hb dX12_layLabels_43 rfl rfl ?_
      obtain ⟨v6, qv6, h⟩ := ob h
      refine fm_iald kyf_312 F hW qv6 dX12_layLabels_44 ?_
      refine lv_aload_n hx hb dX12_layLabels_45 rfl (lv_at hl 0 rfl) ?_
      refine lv_iload_n hx hb dX12_layLabels_46 rfl (lv_at hl 2 rfl) ?_
      refine lv_iconst (v := (2 : Int32)) hx hb dX12_layLabels_47 (by decide) ?_
      obtain ⟨r7, qr7, h⟩ := ob h
      refine k_X12_of F qr7 q_1735 ⟨Nat.le_of_ble_eq_true rfl, Nat.le_of_ble_eq_true rfl, Nat.le_of_ble_eq_true rfl, Nat.le_of_ble_eq_true rfl⟩ hW hS hl.1 (Nat.le_of_ble_eq_true rfl) dX12_layLabels_48 (fun H locs hW hS => ?_)
      refine lv_aload_n hx hb dX12_layLabels_51 rfl (lv_at hl 0 rfl) ?_
      refine lv_iload_n hx hb dX12_layLabels_52 rfl (lv_at hl 1 rfl) ?_
      refine lv_iconst (v := (2 : Int32)) hx hb dX12_layLabels_53 (by decide) ?_
      obtain ⟨r8, qr8, h⟩ := ob h
      refine k_X12_of F qr8 q_1735 ⟨Nat.le_of_ble_eq_true rfl, Nat.le_of_ble_eq_true rfl, Nat.le_of_ble_eq_true rfl, Nat.le_of_ble_eq_true rfl⟩ hW hS hl.1 (Nat.le_of_ble_eq_true rfl) dX12_layLabels_54 (fun H locs hW hS => ?_)
      refine lv_icmp_ne (tgt := 79) hx hb dX12_layLabels_57 (by decide) (fun cc => ?_) (fun cc => ?_)
      · replace h := (if_neg cc).symm.trans h
        refine lv_iconst (v := (0 : Int32)) hx hb dX12_layLabels_79 (by decide) ?_
        refine lv_iadd hx hb dX12_layLabels_80 ?_
        obtain ⟨μ9, qμ9, h⟩ := ob h
        refine fm_iast kyf_312 F hW hS qμ9 dX12_layLabels_81 (fun H locs hW hS => ?_)
        refine lv_iinc (v := (x2 + (1 : Int32))) (lv' := [(2, .int (x2 + (1 : Int32))), (0, .ref (b + 306)), (1, .int x1)]) hx hb dX12_layLabels_82 hl (k := 2) rfl rfl (by decide) rfl (fun ls hl => ?_)
        refine lv_goto (tgt := 33) hx hb dX12_layLabels_85 (by decide) ?_
        exact hk33 _ _ _ _ _ _ h hW hS (lv_sub hl [1, 2, 0] rfl)
      · replace h := (if_pos cc).symm.trans h
        refine lv_aload_n hx hb dX12_layLabels_60 rfl (lv_at hl 0 rfl) ?_
        refine fl_get12 (v := .ref (b + 311)) kyf_306 F hW 18 (by decide) q_1489 rfl rfl dX12_layLabels_61 ?_
        refine lv_iload_n hx hb dX12_layLabels_64 rfl (lv_at hl 2 rfl) ?_
        obtain ⟨v10, qv10, h⟩ := ob h
        refine fm_iald kyf_311 F hW qv10 dX12_layLabels_65 ?_
        refine lv_aload_n hx hb dX12_layLabels_66 rfl (lv_at hl 0 rfl) ?_
        refine fl_get12 (v := .ref (b + 311)) kyf_306 F hW 18 (by decide) q_1489 rfl rfl dX12_layLabels_67 ?_
        refine lv_iload_n hx hb dX12_layLabels_70 rfl (lv_at hl 1 rfl) ?_
        obtain ⟨v11, qv11, h⟩ := ob h
        refine fm_iald kyf_311 F hW qv11 dX12_layLabels_71 ?_
        refine lv_icmp_ne (tgt := 79) hx hb dX12_layLabels_72 (by decide) (fun cc => ?_) (fun cc => ?_)
        · replace h := (if_neg cc).symm.trans h
          refine lv_iconst (v := (0 : Int32)) hx hb dX12_layLabels_79 (by decide) ?_
          refine lv_iadd hx hb dX12_layLabels_80 ?_
          obtain ⟨μ12, qμ12, h⟩ := ob h
          refine fm_iast kyf_312 F hW hS qμ12 dX12_layLabels_81 (fun H locs hW hS => ?_)
          refine lv_iinc (v := (x2 + (1 : Int32))) (lv' := [(2, .int (x2 + (1 : Int32))), (0, .ref (b + 306)), (1, .int x1)]) hx hb dX12_layLabels_82 hl (k := 2) rfl rfl (by decide) rfl (fun ls hl => ?_)
          refine lv_goto (tgt := 33) hx hb dX12_layLabels_85 (by decide) ?_
          exact hk33 _ _ _ _ _ _ h hW hS (lv_sub hl [1, 2, 0] rfl)
        · replace h := (if_pos cc).symm.trans h
          refine lv_iconst (v := (1 : Int32)) hx hb dX12_layLabels_75 (by decide) ?_
          refine lv_goto (tgt := 80) hx hb dX12_layLabels_76 (by decide) ?_
          refine lv_iadd hx hb dX12_layLabels_80 ?_
          obtain ⟨μ13, qμ13, h⟩ := ob h
          refine fm_iast kyf_312 F hW hS qμ13 dX12_layLabels_81 (fun H locs hW hS => ?_)
          refine lv_iinc (v := (x2 + (1 : Int32))) (lv' := [(2, .int (x2 + (1 : Int32))), (0, .ref (b + 306)), (1, .int x1)]) hx hb dX12_layLabels_82 hl (k := 2) rfl rfl (by decide) rfl (fun ls hl => ?_)
          refine lv_goto (tgt := 33) hx hb dX12_layLabels_85 (by decide) ?_
          exact hk33 _ _ _ _ _ _ h hW hS (lv_sub hl [1, 2, 0] rfl)
set_option maxHeartbeats 4000000 in
set_option maxRecDepth 100000 in
theorem wk_X12_layLabels_2 {n : Nat} {out : Mm} (F : FX (fg G) b RX12 cX12_layLabels 3 p s m args meth c) (hr : meth.sig.returnType = none) : ∀ (f : Nat) (x1 : Int32) (μ : Mm) (H : Heap) (locs : List Loc) (ls : Array Slot), sh_X12_layLabels_2 n f x1 μ = some out → WH (fg G) b μ H → va_S (fb b) s.heap H locs → lv_has ls 3 [(0, .ref (b + 306)), (1, .int x1)] → W p l e ({ frames := 2, cells := 0, slots := 0, locals := 44 } : Room) s m args below meth c H locs 0 0 (MQ below (QW (fg G) b out none) args s 0 0 (fb b)) (F0 m 2 ls []) := by
  have hx := F.1
  have hb := F.2.1
  intro f
  induction f with
  | zero =>
    intro _ _ _ _ _ h
    rw [sh_X12_layLabels_2] at h
    cases h
  | succ f ih =>
    intro x1 μ H locs ls h hW hS hl
    rw [sh_X12_layLabels_2] at h
    have hk2 := ih
    refine lv_iload_n hx hb dX12_layLabels_2 rfl (lv_at hl 1 rfl) ?_
    refine lv_aload_n hx hb dX12_layLabels_3 rfl (lv_at hl 0 rfl) ?_
    have pf1 := nd_ky hW.2.1
    refine fl_get12 (v := .ref (b + (μ.2.2 0))) kyf_306 F hW 3 (by decide) q_1474 rfl rfl dX12_layLabels_4 ?_
    refine lv_bipush (v := (9 : Int32)) hx hb dX12_layLabels_7 (by decide) ?_
    obtain ⟨v2, qv2, h⟩ := ob h
    refine fm_iald pf1 F hW qv2 dX12_layLabels_9 ?_
    refine lv_icmp_ge (tgt := 94) hx hb dX12_layLabels_10 (by decide) (fun cc => ?_) (fun cc => ?_)
    · replace h := (if_pos cc).symm.trans h
      cases h
      exact r_void F hr hW hS dX12_layLabels_94
    · replace h := (if_neg cc).symm.trans h
      refine lv_aload_n hx hb dX12_layLabels_13 rfl (lv_at hl 0 rfl) ?_
      refine fl_get12 (v := .ref (b + 311)) kyf_306 F hW 18 (by decide) q_1489 rfl rfl dX12_layLabels_14 ?_
      refine lv_iload_n hx hb dX12_layLabels_17 rfl (lv_at hl 1 rfl) ?_
      refine lv_aload_n hx hb dX12_layLabels_18 rfl (lv_at hl 0 rfl) ?_
      refine lv_iload_n hx hb dX12_layLabels_19 rfl (lv_at hl 1 rfl) ?_
      obtain ⟨r3, qr3, h⟩ := ob h
      refine k_X12_parentOf F qr3 q_1772 ⟨Nat.le_of_ble_eq_true rfl, Nat.le_of_ble_eq_true rfl, Nat.le_of_ble_eq_true rfl, Nat.le_of_ble_eq_true rfl⟩ hW hS hl.1 (Nat.le_of_ble_eq_true rfl) dX12_layLabels_20 (fun H locs hW hS => ?_)
      obtain ⟨μ4, qμ4, h⟩ := ob h
      refine fm_iast kyf_311 F hW hS qμ4 dX12_layLabels_23 (fun H locs hW hS => ?_)
      refine lv_aload_n hx hb dX12_layLabels_24 rfl (lv_at hl 0 rfl) ?_
      refine fl_get12 (v := .ref (b + 312)) kyf_306 F hW 19 (by decide) q_1490 rfl rfl dX12_layLabels_25 ?_
      refine lv_iload_n hx hb dX12_layLabels_28 rfl (lv_at hl 1 rfl) ?_
      refine lv_iconst (v := (1 : Int32)) hx hb dX12_layLabels_29 (by decide) ?_
      obtain ⟨μ5, qμ5, h⟩ := ob h
      refine fm_iast kyf_312 F hW hS qμ5 dX12_layLabels_30 (fun H locs hW hS => ?_)
      refine lv_iconst (v := (0 : Int32)) hx hb dX12_layLabels_31 (by decide) ?_
      refine lv_istore_n (lv' := [(2, .int (0 : Int32)), (0, .ref (b + 306)), (1, .int x1)]) hx hb dX12_layLabels_32 rfl hl (by decide) rfl (fun ls hl => ?_)
      exact wk_X12_layLabels_33 F hr hk2 n _ _ _ _ _ _ h hW hS (lv_sub hl [1, 2, 0] rfl)
set_option maxHeartbeats 4000000 in
set_option maxRecDepth 100000 in
theorem wk_X12_layLabels {n : Nat} {μ : Mm} {out : Mm} (F : FX (fg G) b RX12 cX12_layLabels 3 p s m args meth c) (hr : meth.sig.returnType = none) (h : sh_X12_layLabels n  μ = some out) (hW : WH (fg G) b μ H) (hS : va_S (fb b) s.heap H locs) (hl : lv_has ls 3 [(0, .ref (b + 306))]) : W p l e ({ frames := 2, cells := 0, slots := 0, locals := 44 } : Room) s m args below meth c H locs 0 0 (MQ below (QW (fg G) b out none) args s 0 0 (fb b)) (F0 m 0 ls []) := by
  have hx := F.1
  have hb := F.2.1
  unfold sh_X12_layLabels at h
  refine lv_iconst (v := (0 : Int32)) hx hb dX12_layLabels_0 (by decide) ?_
  refine lv_istore_n (lv' := [(1, .int (0 : Int32)), (0, .ref (b + 306))]) hx hb dX12_layLabels_1 rfl hl (by decide) rfl (fun ls hl => ?_)
  exact wk_X12_layLabels_2 F hr n _ _ _ _ _ h hW hS (lv_sub hl [1, 0] rfl)
set_option maxHeartbeats 4000000 in
set_option maxRecDepth 100000 in
theorem c_X12_layLabels {l : Launch} {G : Gt} {b : Nat} {n : Nat} {μ : Mm} {out : Mm} (h : sh_X12_layLabels n  μ = some out) : Met l yX12_layLabels (wU (Cond.code yX12_layLabels cX12_layLabels 3 none)) ({ frames := 2, cells := 0, slots := 0, locals := 44 } : Room) (PcW (fg G) b μ [.ref (b + 306)]) (QW (fg G) b out none) 0 0 (fb b) :=
  met_of [.ref (b + 306)] (by decide) (Nat.le_of_ble_eq_true rfl) (fun F hr hW hl => wk_X12_layLabels F hr h hW va_S.rf hl)
set_option maxHeartbeats 4000000 in
set_option maxRecDepth 100000 in
theorem k_X12_layLabels {own : String} {nL : Nat} (F : FX (fg G) b own cc nL p s m args meth c) {n : Nat} {μ : Mm} {out : Mm} (h : sh_X12_layLabels n  μ = some out) {index : Nat} (hl : Cond.methodLink own index yX12_layLabels ∈ TBG) (hR : 2 + 1 ≤ R.frames ∧ 8 + (3 + 11) + 44 ≤ R.locals ∧ cells ≤ R.cells ∧ slots ≤ R.slots) (hW : WH (fg G) b μ H) (hS : va_S (fb b) s.heap H locs) (hsz : ls.size = nL) (hrest : (rest.map fun v => v.category).sum ≤ 8) (hdg : decode cc pc = .ok (.invokevirtual index, 3))
    (kk : ∀ (H1 : Heap) (locs1 : List Loc), WH (fg G) b out H1 → va_S (fb b) s.heap H1 locs1 → W p l e R s m args below meth c H1 locs1 cells slots Q (F0 m (pc + 3) ls (rest))) : W p l e R s m args below meth c H locs cells slots Q (F0 m pc ls (.ref (b + 306) :: rest)) :=
  f_callV (As := []) (ci := 12) (c_X12_layLabels h) ⟨rfl, rfl⟩ rfl (ky_lm kyf_306 (by decide)) (wF_12 kyf_306) q_1770 qp_66 q_14 q_1771 rfl ⟨by decide +kernel, by decide +kernel, (show (parseMethodDescriptor yX12_layLabels.desc).map (fun d => d.parameters.length) = some 0 by decide +kernel)⟩ F hl hR hW hS hsz hrest rfl hdg kk
set_option maxHeartbeats 4000000 in
set_option maxRecDepth 100000 in
theorem wk_X12_putLabel_38 {n : Nat} {a1 : Int32} {out : Mm} (F : FX (fg G) b RX12 cX12_putLabel 4 p s m args meth c) (hr : meth.sig.returnType = none) : ∀ (f : Nat) (x3 : Int32) (μ : Mm) (H : Heap) (locs : List Loc) (ls : Array Slot), sh_X12_putLabel_38 n a1 f x3 μ = some out → WH (fg G) b μ H → va_S (fb b) s.heap H locs → lv_has ls 4 [(0, .ref (b + 306)), (3, .int x3)] → W p l e ({ frames := 2, cells := 0, slots := 0, locals := 44 } : Room) s m args below meth c H locs 0 0 (MQ below (QW (fg G) b out none) args s 0 0 (fb b)) (F0 m 38 ls []) := by
  have hx := F.1
  have hb := F.2.1
  intro f
  induction f with
  | zero =>
    intro _ _ _ _ _ h
    rw [sh_X12_putLabel_38] at h
    cases h
  | succ f ih =>
    intro x3 μ H locs ls h hW hS hl
    rw [sh_X12_putLabel_38] at h
    have hk38 := ih
    refine lv_iload_n hx hb dX12_putLabel_38 rfl (lv_at hl 1 rfl) ?_
    refine lv_if_lt (tgt := 68) hx hb dX12_putLabel_39 (by decide) (fun cc => ?_) (fun cc => ?_)
    · replace h := (if_pos cc).symm.trans h
      cases h
      exact r_void F hr hW hS dX12_putLabel_68
    · replace h := (if_neg cc).symm.trans h
      refine lv_aload_n hx hb dX12_putLabel_42 rfl (lv_at hl 0 rfl) ?_
      refine lv_aload_n hx hb dX12_putLabel_43 rfl (lv_at hl 0 rfl) ?_
      refine fl_get12 (v := .ref (b + 313)) kyf_306 F hW 20 (by decide) q_1491 rfl rfl dX12_putLabel_44 ?_
      refine lv_iload_n hx hb dX12_putLabel_47 rfl (lv_at hl 1 rfl) ?_
      obtain ⟨v2, qv2, h⟩ := ob h
      refine fm_iald kyf_313 F hW qv2 dX12_putLabel_48 ?_
      obtain ⟨r3, qr3, h⟩ := ob h
      refine k_X12_putNumber F qr3 q_1812 ⟨Nat.le_of_ble_eq_true rfl, Nat.le_of_ble_eq_true rfl, Nat.le_of_ble_eq_true rfl, Nat.le_of_ble_eq_true rfl⟩ hW hS hl.1 (Nat.le_of_ble_eq_true rfl) dX12_putLabel_49 (fun H locs hW hS => ?_)
      refine lv_iload_n hx hb dX12_putLabel_52 rfl (lv_at hl 1 rfl) ?_
      refine lv_if_le (tgt := 62) hx hb dX12_putLabel_53 (by decide) (fun cc => ?_) (fun cc => ?_)
      · replace h := (if_pos cc).symm.trans h
        refine lv_iinc (v := (x3 + (-1 : Int32))) (lv' := [(3, .int (x3 + (-1 : Int32))), (0, .ref (b + 306))]) hx hb dX12_putLabel_62 hl (k := 1) rfl rfl (by decide) rfl (fun ls hl => ?_)
        refine lv_goto (tgt := 38) hx hb dX12_putLabel_65 (by decide) ?_
        exact hk38 _ _ _ _ _ h hW hS (lv_sub hl [1, 0] rfl)
      · replace h := (if_neg cc).symm.trans h
        refine lv_aload_n hx hb dX12_putLabel_56 rfl (lv_at hl 0 rfl) ?_
        refine lv_bipush (v := (46 : Int32)) hx hb dX12_putLabel_57 (by decide) ?_
        obtain ⟨r4, qr4, h⟩ := ob h
        refine k_X12_put F qr4 q_1804 ⟨Nat.le_of_ble_eq_true rfl, Nat.le_of_ble_eq_true rfl, Nat.le_of_ble_eq_true rfl, Nat.le_of_ble_eq_true rfl⟩ hW hS hl.1 (Nat.le_of_ble_eq_true rfl) dX12_putLabel_59 (fun H locs hW hS => ?_)
        refine lv_iinc (v := (x3 + (-1 : Int32))) (lv' := [(3, .int (x3 + (-1 : Int32))), (0, .ref (b + 306))]) hx hb dX12_putLabel_62 hl (k := 1) rfl rfl (by decide) rfl (fun ls hl => ?_)
        refine lv_goto (tgt := 38) hx hb dX12_putLabel_65 (by decide) ?_
        exact hk38 _ _ _ _ _ h hW hS (lv_sub hl [1, 0] rfl)
set_option maxHeartbeats 4000000 in
set_option maxRecDepth 100000 in
theorem wk_X12_putLabel_4 {n : Nat} {a1 : Int32} {out : Mm} (F : FX (fg G) b RX12 cX12_putLabel 4 p s m args meth c) (hr : meth.sig.returnType = none) : ∀ (f : Nat) (x2 : Int32) (x3 : Int32) (μ : Mm) (H : Heap) (locs : List Loc) (ls : Array Slot), sh_X12_putLabel_4 n a1 f x2 x3 μ = some out → WH (fg G) b μ H → va_S (fb b) s.heap H locs → lv_has ls 4 [(0, .ref (b + 306)), (2, .int x2), (3, .int x3)] → W p l e ({ frames := 2, cells := 0, slots := 0, locals := 44 } : Room) s m args below meth c H locs 0 0 (MQ below (QW (fg G) b out none) args s 0 0 (fb b)) (F0 m 4 ls []) := by
  have hx := F.1
  have hb := F.2.1
  intro f
  induction f with
  | zero =>
    intro _ _ _ _ _ _ h
    rw [sh_X12_putLabel_4] at h
    cases h
  | succ f ih =>
    intro x2 x3 μ H locs ls h hW hS hl
    rw [sh_X12_putLabel_4] at h
    have hk4 := ih
    refine lv_iload_n hx hb dX12_putLabel_4 rfl (lv_at hl 2 rfl) ?_
    refine lv_iconst (v := (-1 : Int32)) hx hb dX12_putLabel_5 (by decide) ?_
    refine lv_icmp_eq (tgt := 34) hx hb dX12_putLabel_6 (by decide) (fun cc => ?_) (fun cc => ?_)
    · replace h := (if_pos cc).symm.trans h
      refine lv_iload_n hx hb dX12_putLabel_34 rfl (lv_at hl 1 rfl) ?_
      refine lv_iconst (v := (1 : Int32)) hx hb dX12_putLabel_35 (by decide) ?_
      refine lv_isub hx hb dX12_putLabel_36 ?_
      obtain ⟨v1, ev1⟩ : ∃ y, y = (x2 - (1 : Int32)) := ⟨_, rfl⟩
      have h := nm_at ev1 h
      rw [← ev1]
      refine lv_istore_n (lv' := [(3, .int v1), (0, .ref (b + 306)), (2, .int x2)]) hx hb dX12_putLabel_37 rfl hl (by decide) rfl (fun ls hl => ?_)
      exact wk_X12_putLabel_38 F hr n _ _ _ _ _ h hW hS (lv_sub hl [1, 0] rfl)
    · replace h := (if_neg cc).symm.trans h
      refine lv_aload_n hx hb dX12_putLabel_9 rfl (lv_at hl 0 rfl) ?_
      refine fl_get12 (v := .ref (b + 313)) kyf_306 F hW 20 (by decide) q_1491 rfl rfl dX12_putLabel_10 ?_
      refine lv_iload_n hx hb dX12_putLabel_13 rfl (lv_at hl 1 rfl) ?_
      refine lv_aload_n hx hb dX12_putLabel_14 rfl (lv_at hl 0 rfl) ?_
      refine fl_get12 (v := .ref (b + 312)) kyf_306 F hW 19 (by decide) q_1490 rfl rfl dX12_putLabel_15 ?_
      refine lv_iload_n hx hb dX12_putLabel_18 rfl (lv_at hl 2 rfl) ?_
      obtain ⟨v5, qv5, h⟩ := ob h
      refine fm_iald kyf_312 F hW qv5 dX12_putLabel_19 ?_
      obtain ⟨μ6, qμ6, h⟩ := ob h
      refine fm_iast kyf_313 F hW hS qμ6 dX12_putLabel_20 (fun H locs hW hS => ?_)
      refine lv_iinc (v := (x2 + (1 : Int32))) (lv' := [(2, .int (x2 + (1 : Int32))), (0, .ref (b + 306)), (3, .int x3)]) hx hb dX12_putLabel_21 hl (k := 1) rfl rfl (by decide) rfl (fun ls hl => ?_)
      refine lv_aload_n hx hb dX12_putLabel_24 rfl (lv_at hl 1 rfl) ?_
      refine fl_get12 (v := .ref (b + 311)) kyf_306 F hW 18 (by decide) q_1489 rfl rfl dX12_putLabel_25 ?_
      refine lv_iload_n hx hb dX12_putLabel_28 rfl (lv_at hl 2 rfl) ?_
      obtain ⟨v7, qv7, h⟩ := ob h
      refine fm_iald kyf_311 F hW qv7 dX12_putLabel_29 ?_
      refine lv_istore_n (lv' := [(3, .int v7), (2, .int (x2 + (1 : Int32))), (0, .ref (b + 306))]) hx hb dX12_putLabel_30 rfl hl (by decide) rfl (fun ls hl => ?_)
      refine lv_goto (tgt := 4) hx hb dX12_putLabel_31 (by decide) ?_
      exact hk4 _ _ _ _ _ _ h hW hS (lv_sub hl [2, 1, 0] rfl)
set_option maxHeartbeats 4000000 in
set_option maxRecDepth 100000 in
theorem wk_X12_putLabel {n : Nat} {a1 : Int32} {μ : Mm} {out : Mm} (F : FX (fg G) b RX12 cX12_putLabel 4 p s m args meth c) (hr : meth.sig.returnType = none) (h : sh_X12_putLabel n a1 μ = some out) (hW : WH (fg G) b μ H) (hS : va_S (fb b) s.heap H locs) (hl : lv_has ls 4 [(0, .ref (b + 306)), (1, .int a1)]) : W p l e ({ frames := 2, cells := 0, slots := 0, locals := 44 } : Room) s m args below meth c H locs 0 0 (MQ below (QW (fg G) b out none) args s 0 0 (fb b)) (F0 m 0 ls []) := by
  have hx := F.1
  have hb := F.2.1
  unfold sh_X12_putLabel at h
  refine lv_iconst (v := (0 : Int32)) hx hb dX12_putLabel_0 (by decide) ?_
  refine lv_istore_n (lv' := [(2, .int (0 : Int32)), (0, .ref (b + 306)), (1, .int a1)]) hx hb dX12_putLabel_1 rfl hl (by decide) rfl (fun ls hl => ?_)
  refine lv_iload_n hx hb dX12_putLabel_2 rfl (lv_at hl 2 rfl) ?_
  refine lv_istore_n (lv' := [(3, .int a1), (2, .int (0 : Int32)), (0, .ref (b + 306)), (1, .int a1)]) hx hb dX12_putLabel_3 rfl hl (by decide) rfl (fun ls hl => ?_)
  exact wk_X12_putLabel_4 F hr n _ _ _ _ _ _ h hW hS (lv_sub hl [2, 1, 0] rfl)
set_option maxHeartbeats 4000000 in
set_option maxRecDepth 100000 in
theorem c_X12_putLabel {l : Launch} {G : Gt} {b : Nat} {n : Nat} {a1 : Int32} {μ : Mm} {out : Mm} (h : sh_X12_putLabel n a1 μ = some out) : Met l yX12_putLabel (wU (Cond.code yX12_putLabel cX12_putLabel 4 none)) ({ frames := 2, cells := 0, slots := 0, locals := 44 } : Room) (PcW (fg G) b μ [.ref (b + 306), .int a1]) (QW (fg G) b out none) 0 0 (fb b) :=
  met_of [.ref (b + 306), .int a1] (by decide) (Nat.le_of_ble_eq_true rfl) (fun F hr hW hl => wk_X12_putLabel F hr h hW va_S.rf hl)
set_option maxHeartbeats 4000000 in
set_option maxRecDepth 100000 in
theorem k_X12_putLabel {own : String} {nL : Nat} (F : FX (fg G) b own cc nL p s m args meth c) {n : Nat} {a1 : Int32} {μ : Mm} {out : Mm} (h : sh_X12_putLabel n a1 μ = some out) {index : Nat} (hl : Cond.methodLink own index yX12_putLabel ∈ TBG) (hR : 2 + 1 ≤ R.frames ∧ 8 + (4 + 11) + 44 ≤ R.locals ∧ cells ≤ R.cells ∧ slots ≤ R.slots) (hW : WH (fg G) b μ H) (hS : va_S (fb b) s.heap H locs) (hsz : ls.size = nL) (hrest : (rest.map fun v => v.category).sum ≤ 8) (hdg : decode cc pc = .ok (.invokevirtual index, 3))
    (kk : ∀ (H1 : Heap) (locs1 : List Loc), WH (fg G) b out H1 → va_S (fb b) s.heap H1 locs1 → W p l e R s m args below meth c H1 locs1 cells slots Q (F0 m (pc + 3) ls (rest))) : W p l e R s m args below meth c H locs cells slots Q (F0 m pc ls (.int a1 :: .ref (b + 306) :: rest)) :=
  f_callV (As := [.int a1]) (ci := 12) (c_X12_putLabel h) ⟨rfl, rfl⟩ rfl (ky_lm kyf_306 (by decide)) (wF_12 kyf_306) q_1838 qp_82 q_14 q_1839 rfl ⟨by decide +kernel, by decide +kernel, (show (parseMethodDescriptor yX12_putLabel.desc).map (fun d => d.parameters.length) = some 1 by decide +kernel)⟩ F hl hR hW hS hsz hrest rfl hdg kk
set_option maxHeartbeats 4000000 in
set_option maxRecDepth 100000 in
theorem wk_X12_putToken_25 {n : Nat} {a1 : Int32} {a2 : Int32} {μ : Mm} {out : Mm} (F : FX (fg G) b RX12 cX12_putToken 3 p s m args meth c) (hr : meth.sig.returnType = none) (h : sh_X12_putToken_25 n a1 a2 μ = some out) (hW : WH (fg G) b μ H) (hS : va_S (fb b) s.heap H locs) (hl : lv_has ls 3 [(0, .ref (b + 306)), (1, .int a1), (2, .int a2)]) : W p l e ({ frames := 3, cells := 0, slots := 0, locals := 68 } : Room) s m args below meth c H locs 0 0 (MQ below (QW (fg G) b out none) args s 0 0 (fb b)) (F0 m 25 ls []) := by
  have hx := F.1
  have hb := F.2.1
  unfold sh_X12_putToken_25 at h
  refine lv_aload_n hx hb dX12_putToken_25 rfl (lv_at hl 0 rfl) ?_
  refine lv_iload_n hx hb dX12_putToken_26 rfl (lv_at hl 1 rfl) ?_
  refine lv_iload_n hx hb dX12_putToken_27 rfl (lv_at hl 2 rfl) ?_
  obtain ⟨r1, qr1, h⟩ := ob h
  refine k_X12_putWord F qr1 q_1840 ⟨Nat.le_of_ble_eq_true rfl, Nat.le_of_ble_eq_true rfl, Nat.le_of_ble_eq_true rfl, Nat.le_of_ble_eq_true rfl⟩ hW hS hl.1 (Nat.le_of_ble_eq_true rfl) dX12_putToken_28 (fun H locs hW hS => ?_)
  cases h
  exact r_void F hr hW hS dX12_putToken_31
set_option maxHeartbeats 4000000 in
set_option maxRecDepth 100000 in
theorem wk_X12_putToken {n : Nat} {a1 : Int32} {a2 : Int32} {μ : Mm} {out : Mm} (F : FX (fg G) b RX12 cX12_putToken 3 p s m args meth c) (hr : meth.sig.returnType = none) (h : sh_X12_putToken n a1 a2 μ = some out) (hW : WH (fg G) b μ H) (hS : va_S (fb b) s.heap H locs) (hl : lv_has ls 3 [(0, .ref (b + 306)), (1, .int a1), (2, .int a2)]) : W p l e ({ frames := 3, cells := 0, slots := 0, locals := 68 } : Room) s m args below meth c H locs 0 0 (MQ below (QW (fg G) b out none) args s 0 0 (fb b)) (F0 m 0 ls []) := by
  have hx := F.1
  have hb := F.2.1
  unfold sh_X12_putToken at h
  refine lv_iload_n hx hb dX12_putToken_0 rfl (lv_at hl 2 rfl) ?_
  refine lv_if_ne (tgt := 25) hx hb dX12_putToken_1 (by decide) (fun cc => ?_) (fun cc => ?_)
  · replace h := (if_neg cc).symm.trans h
    exact wk_X12_putToken_25 F hr h hW hS (lv_sub hl [0, 1, 2] rfl)
  · replace h := (if_pos cc).symm.trans h
    refine lv_aload_n hx hb dX12_putToken_4 rfl (lv_at hl 0 rfl) ?_
    refine lv_iload_n hx hb dX12_putToken_5 rfl (lv_at hl 1 rfl) ?_
    refine lv_iconst (v := (2 : Int32)) hx hb dX12_putToken_6 (by decide) ?_
    obtain ⟨r2, qr2, h⟩ := ob h
    refine k_X12_of F qr2 q_1735 ⟨Nat.le_of_ble_eq_true rfl, Nat.le_of_ble_eq_true rfl, Nat.le_of_ble_eq_true rfl, Nat.le_of_ble_eq_true rfl⟩ hW hS hl.1 (Nat.le_of_ble_eq_true rfl) dX12_putToken_7 (fun H locs hW hS => ?_)
    refine lv_iconst (v := (1 : Int32)) hx hb dX12_putToken_10 (by decide) ?_
    refine lv_icmp_ne (tgt := 25) hx hb dX12_putToken_11 (by decide) (fun cc => ?_) (fun cc => ?_)
    · replace h := (if_neg cc).symm.trans h
      exact wk_X12_putToken_25 F hr h hW hS (lv_sub hl [0, 1, 2] rfl)
    · replace h := (if_pos cc).symm.trans h
      refine lv_aload_n hx hb dX12_putToken_14 rfl (lv_at hl 0 rfl) ?_
      refine lv_iload_n hx hb dX12_putToken_15 rfl (lv_at hl 1 rfl) ?_
      obtain ⟨r3, qr3, h⟩ := ob h
      refine k_X12_putLabel F qr3 q_1836 ⟨Nat.le_of_ble_eq_true rfl, Nat.le_of_ble_eq_true rfl, Nat.le_of_ble_eq_true rfl, Nat.le_of_ble_eq_true rfl⟩ hW hS hl.1 (Nat.le_of_ble_eq_true rfl) dX12_putToken_16 (fun H locs hW hS => ?_)
      refine lv_aload_n hx hb dX12_putToken_19 rfl (lv_at hl 0 rfl) ?_
      refine lv_bipush (v := (32 : Int32)) hx hb dX12_putToken_20 (by decide) ?_
      obtain ⟨r4, qr4, h⟩ := ob h
      refine k_X12_put F qr4 q_1804 ⟨Nat.le_of_ble_eq_true rfl, Nat.le_of_ble_eq_true rfl, Nat.le_of_ble_eq_true rfl, Nat.le_of_ble_eq_true rfl⟩ hW hS hl.1 (Nat.le_of_ble_eq_true rfl) dX12_putToken_22 (fun H locs hW hS => ?_)
      exact wk_X12_putToken_25 F hr h hW hS (lv_sub hl [0, 1, 2] rfl)
set_option maxHeartbeats 4000000 in
set_option maxRecDepth 100000 in
theorem c_X12_putToken {l : Launch} {G : Gt} {b : Nat} {n : Nat} {a1 : Int32} {a2 : Int32} {μ : Mm} {out : Mm} (h : sh_X12_putToken n a1 a2 μ = some out) : Met l yX12_putToken (wU (Cond.code yX12_putToken cX12_putToken 3 none)) ({ frames := 3, cells := 0, slots := 0, locals := 68 } : Room) (PcW (fg G) b μ [.ref (b + 306), .int a1, .int a2]) (QW (fg G) b out none) 0 0 (fb b) :=
  met_of [.ref (b + 306), .int a1, .int a2] (by decide) (Nat.le_of_ble_eq_true rfl) (fun F hr hW hl => wk_X12_putToken F hr h hW va_S.rf hl)
set_option maxHeartbeats 4000000 in
set_option maxRecDepth 100000 in
theorem k_X12_putToken {own : String} {nL : Nat} (F : FX (fg G) b own cc nL p s m args meth c) {n : Nat} {a1 : Int32} {a2 : Int32} {μ : Mm} {out : Mm} (h : sh_X12_putToken n a1 a2 μ = some out) {index : Nat} (hl : Cond.methodLink own index yX12_putToken ∈ TBG) (hR : 3 + 1 ≤ R.frames ∧ 8 + (3 + 11) + 68 ≤ R.locals ∧ cells ≤ R.cells ∧ slots ≤ R.slots) (hW : WH (fg G) b μ H) (hS : va_S (fb b) s.heap H locs) (hsz : ls.size = nL) (hrest : (rest.map fun v => v.category).sum ≤ 8) (hdg : decode cc pc = .ok (.invokevirtual index, 3))
    (kk : ∀ (H1 : Heap) (locs1 : List Loc), WH (fg G) b out H1 → va_S (fb b) s.heap H1 locs1 → W p l e R s m args below meth c H1 locs1 cells slots Q (F0 m (pc + 3) ls (rest))) : W p l e R s m args below meth c H locs cells slots Q (F0 m pc ls (.int a2 :: .int a1 :: .ref (b + 306) :: rest)) :=
  f_callV (As := [.int a1, .int a2]) (ci := 12) (c_X12_putToken h) ⟨rfl, rfl⟩ rfl (ky_lm kyf_306 (by decide)) (wF_12 kyf_306) q_1834 qp_81 q_14 q_1835 rfl ⟨by decide +kernel, by decide +kernel, (show (parseMethodDescriptor yX12_putToken.desc).map (fun d => d.parameters.length) = some 2 by decide +kernel)⟩ F hl hR hW hS hsz hrest rfl hdg kk
set_option maxHeartbeats 4000000 in
set_option maxRecDepth 100000 in
theorem wk_X12_tokenWidth {n : Nat} {a1 : Int32} {a2 : Int32} {μ : Mm} {out : (Int32 × Mm)} (F : FX (fg G) b RX12 cX12_tokenWidth 3 p s m args meth c) (hr : meth.sig.returnType = some .int) (h : sh_X12_tokenWidth n a1 a2 μ = some out) (hW : WH (fg G) b μ H) (hS : va_S (fb b) s.heap H locs) (hl : lv_has ls 3 [(0, .ref (b + 306)), (1, .int a1), (2, .int a2)]) : W p l e ({ frames := 4, cells := 0, slots := 0, locals := 90 } : Room) s m args below meth c H locs 0 0 (MQ below (QW (fg G) b out.2 (some (.int out.1))) args s 0 0 (fb b)) (F0 m 0 ls []) := by
  have hx := F.1
  have hb := F.2.1
  unfold sh_X12_tokenWidth at h
  refine lv_aload_n hx hb dX12_tokenWidth_0 rfl (lv_at hl 0 rfl) ?_
  refine lv_iconst (v := (0 : Int32)) hx hb dX12_tokenWidth_1 (by decide) ?_
  obtain ⟨μ1, hmμ1, h⟩ := ob h
  refine fl_put12_17 kyf_306 F hW hS q_1488 hmμ1 dX12_tokenWidth_2 (fun H locs hW hS => ?_)
  refine lv_aload_n hx hb dX12_tokenWidth_5 rfl (lv_at hl 0 rfl) ?_
  refine lv_iload_n hx hb dX12_tokenWidth_6 rfl (lv_at hl 1 rfl) ?_
  refine lv_iload_n hx hb dX12_tokenWidth_7 rfl (lv_at hl 2 rfl) ?_
  obtain ⟨r2, qr2, h⟩ := ob h
  refine k_X12_putToken F qr2 q_1832 ⟨Nat.le_of_ble_eq_true rfl, Nat.le_of_ble_eq_true rfl, Nat.le_of_ble_eq_true rfl, Nat.le_of_ble_eq_true rfl⟩ hW hS hl.1 (Nat.le_of_ble_eq_true rfl) dX12_tokenWidth_8 (fun H locs hW hS => ?_)
  refine lv_aload_n hx hb dX12_tokenWidth_11 rfl (lv_at hl 0 rfl) ?_
  refine lv_iconst (v := (0 : Int32)) hx hb dX12_tokenWidth_12 (by decide) ?_
  obtain ⟨r3, qr3, h⟩ := ob h
  refine k_X12_textWidth F qr3 q_1816 ⟨Nat.le_of_ble_eq_true rfl, Nat.le_of_ble_eq_true rfl, Nat.le_of_ble_eq_true rfl, Nat.le_of_ble_eq_true rfl⟩ hW hS hl.1 (Nat.le_of_ble_eq_true rfl) dX12_tokenWidth_13 (fun H locs hW hS => ?_)
  cases h
  exact r_int F hr hW hS dX12_tokenWidth_16
set_option maxHeartbeats 4000000 in
set_option maxRecDepth 100000 in
theorem c_X12_tokenWidth {l : Launch} {G : Gt} {b : Nat} {n : Nat} {a1 : Int32} {a2 : Int32} {μ : Mm} {out : (Int32 × Mm)} (h : sh_X12_tokenWidth n a1 a2 μ = some out) : Met l yX12_tokenWidth (wU (Cond.code yX12_tokenWidth cX12_tokenWidth 3 (some .int))) ({ frames := 4, cells := 0, slots := 0, locals := 90 } : Room) (PcW (fg G) b μ [.ref (b + 306), .int a1, .int a2]) (QW (fg G) b out.2 (some (.int out.1))) 0 0 (fb b) :=
  met_of [.ref (b + 306), .int a1, .int a2] (by decide) (Nat.le_of_ble_eq_true rfl) (fun F hr hW hl => wk_X12_tokenWidth F hr h hW va_S.rf hl)
set_option maxHeartbeats 4000000 in
set_option maxRecDepth 100000 in
theorem k_X12_tokenWidth {own : String} {nL : Nat} (F : FX (fg G) b own cc nL p s m args meth c) {n : Nat} {a1 : Int32} {a2 : Int32} {μ : Mm} {out : (Int32 × Mm)} (h : sh_X12_tokenWidth n a1 a2 μ = some out) {index : Nat} (hl : Cond.methodLink own index yX12_tokenWidth ∈ TBG) (hR : 4 + 1 ≤ R.frames ∧ 8 + (3 + 11) + 90 ≤ R.locals ∧ cells ≤ R.cells ∧ slots ≤ R.slots) (hW : WH (fg G) b μ H) (hS : va_S (fb b) s.heap H locs) (hsz : ls.size = nL) (hrest : (rest.map fun v => v.category).sum ≤ 8) (hdg : decode cc pc = .ok (.invokevirtual index, 3))
    (kk : ∀ (H1 : Heap) (locs1 : List Loc), WH (fg G) b out.2 H1 → va_S (fb b) s.heap H1 locs1 → W p l e R s m args below meth c H1 locs1 cells slots Q (F0 m (pc + 3) ls (.int out.1 :: rest))) : W p l e R s m args below meth c H locs cells slots Q (F0 m pc ls (.int a2 :: .int a1 :: .ref (b + 306) :: rest)) :=
  f_callV (As := [.int a1, .int a2]) (ci := 12) (c_X12_tokenWidth h) ⟨rfl, rfl⟩ rfl (ky_lm kyf_306 (by decide)) (wF_12 kyf_306) q_1830 qp_80 q_14 q_1831 rfl ⟨by decide +kernel, by decide +kernel, (show (parseMethodDescriptor yX12_tokenWidth.desc).map (fun d => d.parameters.length) = some 2 by decide +kernel)⟩ F hl hR hW hS hsz hrest rfl hdg kk
set_option maxHeartbeats 4000000 in
set_option maxRecDepth 100000 in
theorem wk_X12_flow_129 {a1 : Int32} {x3 : Int32} {s0 : Int32} {s1 : Int32} {μ : Mm} {out : Mm} (F : FX (fg G) b RX12 cX12_flow 5 p s m args meth c) (hr : meth.sig.returnType = none) (h : sh_X12_flow_129 a1 x3 s0 s1 μ = some out) (hW : WH (fg G) b μ H) (hS : va_S (fb b) s.heap H locs) (hl : lv_has ls 5 [(0, .ref (b + 306)), (1, .int a1), (3, .int x3)]) : W p l e ({ frames := 1, cells := 0, slots := 0, locals := 22 } : Room) s m args below meth c H locs 0 0 (MQ below (QW (fg G) b out none) args s 0 0 (fb b)) (F0 m 129 ls [.int s1, .int s0]) := by
  have hx := F.1
  have hb := F.2.1
  unfold sh_X12_flow_129 at h
  refine lv_iadd hx hb dX12_flow_129 ?_
  refine lv_aload_n hx hb dX12_flow_130 rfl (lv_at hl 0 rfl) ?_
  refine lv_iload_n hx hb dX12_flow_131 rfl (lv_at hl 1 rfl) ?_
  refine lv_iconst (v := (1 : Int32)) hx hb dX12_flow_132 (by decide) ?_
  obtain ⟨r6, qr6, h⟩ := ob h
  refine k_X12_of F qr6 q_1735 ⟨Nat.le_of_ble_eq_true rfl, Nat.le_of_ble_eq_true rfl, Nat.le_of_ble_eq_true rfl, Nat.le_of_ble_eq_true rfl⟩ hW hS hl.1 (Nat.le_of_ble_eq_true rfl) dX12_flow_133 (fun H locs hW hS => ?_)
  refine lv_iadd hx hb dX12_flow_136 ?_
  obtain ⟨v7, ev7⟩ : ∃ y, y = ((s0 + s1) + r6) := ⟨_, rfl⟩
  have h := nm_at ev7 h
  rw [← ev7]
  refine lv_istore (lv' := [(4, .int v7), (0, .ref (b + 306)), (1, .int a1), (3, .int x3)]) hx hb dX12_flow_137 hl (by decide) rfl (fun ls hl => ?_)
  refine lv_aload_n hx hb dX12_flow_139 rfl (lv_at hl 1 rfl) ?_
  refine lv_dup hx hb dX12_flow_140 rfl ?_
  refine fl_get12 (v := .int (μ.1 306 25)) kyf_306 F hW 25 (by decide) q_1496 rfl rfl dX12_flow_141 ?_
  refine lv_iload hx hb dX12_flow_144 (lv_at hl 0 rfl) ?_
  refine lv_iconst (v := (1 : Int32)) hx hb dX12_flow_146 (by decide) ?_
  refine lv_isub hx hb dX12_flow_147 ?_
  refine lv_iload_n hx hb dX12_flow_148 rfl (lv_at hl 3 rfl) ?_
  obtain ⟨v8, qv8, h⟩ := ob h
  obtain ⟨zv8, qv8⟩ := dv_some qv8
  refine lv_idiv hx hb dX12_flow_149 zv8 ?_
  rw [qv8]
  refine lv_iadd hx hb dX12_flow_150 ?_
  obtain ⟨μ9, hmμ9, h⟩ := ob h
  refine fl_put12_25 kyf_306 F hW hS q_1496 hmμ9 dX12_flow_151 (fun H locs hW hS => ?_)
  refine lv_aload_n hx hb dX12_flow_154 rfl (lv_at hl 1 rfl) ?_
  refine lv_iload hx hb dX12_flow_155 (lv_at hl 0 rfl) ?_
  refine lv_iload hx hb dX12_flow_157 (lv_at hl 0 rfl) ?_
  refine lv_iconst (v := (1 : Int32)) hx hb dX12_flow_159 (by decide) ?_
  refine lv_isub hx hb dX12_flow_160 ?_
  refine lv_iload_n hx hb dX12_flow_161 rfl (lv_at hl 3 rfl) ?_
  obtain ⟨v10, qv10, h⟩ := ob h
  obtain ⟨zv10, qv10⟩ := dv_some qv10
  refine lv_idiv hx hb dX12_flow_162 zv10 ?_
  rw [qv10]
  refine lv_iload_n hx hb dX12_flow_163 rfl (lv_at hl 3 rfl) ?_
  refine lv_imul hx hb dX12_flow_164 ?_
  refine lv_isub hx hb dX12_flow_165 ?_
  obtain ⟨μ11, hmμ11, h⟩ := ob h
  refine fl_put12_26 kyf_306 F hW hS q_1497 hmμ11 dX12_flow_166 (fun H locs hW hS => ?_)
  cases h
  exact r_void F hr hW hS dX12_flow_169
set_option maxHeartbeats 4000000 in
set_option maxRecDepth 100000 in
theorem wk_X12_flow_96 {a1 : Int32} {x2 : Int32} {x3 : Int32} {μ : Mm} {out : Mm} (F : FX (fg G) b RX12 cX12_flow 5 p s m args meth c) (hr : meth.sig.returnType = none) (h : sh_X12_flow_96 a1 x2 x3 μ = some out) (hW : WH (fg G) b μ H) (hS : va_S (fb b) s.heap H locs) (hl : lv_has ls 5 [(0, .ref (b + 306)), (1, .int a1), (2, .int x2), (3, .int x3)]) : W p l e ({ frames := 1, cells := 0, slots := 0, locals := 22 } : Room) s m args below meth c H locs 0 0 (MQ below (QW (fg G) b out none) args s 0 0 (fb b)) (F0 m 96 ls []) := by
  have hx := F.1
  have hb := F.2.1
  unfold sh_X12_flow_96 at h
  refine lv_aload_n hx hb dX12_flow_96 rfl (lv_at hl 0 rfl) ?_
  refine fl_get12 (v := .ref (b + 314)) kyf_306 F hW 21 (by decide) q_1492 rfl rfl dX12_flow_97 ?_
  refine lv_iload_n hx hb dX12_flow_100 rfl (lv_at hl 1 rfl) ?_
  refine lv_aload_n hx hb dX12_flow_101 rfl (lv_at hl 0 rfl) ?_
  refine fl_get12 (v := .int (μ.1 306 25)) kyf_306 F hW 25 (by decide) q_1496 rfl rfl dX12_flow_102 ?_
  obtain ⟨μ4, qμ4, h⟩ := ob h
  refine fm_iast kyf_314 F hW hS qμ4 dX12_flow_105 (fun H locs hW hS => ?_)
  refine lv_aload_n hx hb dX12_flow_106 rfl (lv_at hl 0 rfl) ?_
  refine fl_get12 (v := .ref (b + 315)) kyf_306 F hW 22 (by decide) q_1493 rfl rfl dX12_flow_107 ?_
  refine lv_iload_n hx hb dX12_flow_110 rfl (lv_at hl 1 rfl) ?_
  refine lv_aload_n hx hb dX12_flow_111 rfl (lv_at hl 0 rfl) ?_
  refine fl_get12 (v := .int (μ4.1 306 26)) kyf_306 F hW 26 (by decide) q_1497 rfl rfl dX12_flow_112 ?_
  obtain ⟨μ5, qμ5, h⟩ := ob h
  refine fm_iast kyf_315 F hW hS qμ5 dX12_flow_115 (fun H locs hW hS => ?_)
  refine lv_aload_n hx hb dX12_flow_116 rfl (lv_at hl 0 rfl) ?_
  refine fl_get12 (v := .int (μ5.1 306 26)) kyf_306 F hW 26 (by decide) q_1497 rfl rfl dX12_flow_117 ?_
  refine lv_iload_n hx hb dX12_flow_120 rfl (lv_at hl 2 rfl) ?_
  refine lv_if_eq (tgt := 128) hx hb dX12_flow_121 (by decide) (fun cc => ?_) (fun cc => ?_)
  · replace h := (if_pos cc).symm.trans h
    refine lv_iconst (v := (1 : Int32)) hx hb dX12_flow_128 (by decide) ?_
    exact wk_X12_flow_129 F hr h hW hS (lv_sub hl [0, 1, 3] rfl)
  · replace h := (if_neg cc).symm.trans h
    refine lv_iconst (v := (3 : Int32)) hx hb dX12_flow_124 (by decide) ?_
    refine lv_goto (tgt := 129) hx hb dX12_flow_125 (by decide) ?_
    exact wk_X12_flow_129 F hr h hW hS (lv_sub hl [0, 1, 3] rfl)
set_option maxHeartbeats 4000000 in
set_option maxRecDepth 100000 in
theorem wk_X12_flow_62 {a1 : Int32} {x2 : Int32} {x3 : Int32} {μ : Mm} {out : Mm} (F : FX (fg G) b RX12 cX12_flow 5 p s m args meth c) (hr : meth.sig.returnType = none) (h : sh_X12_flow_62 a1 x2 x3 μ = some out) (hW : WH (fg G) b μ H) (hS : va_S (fb b) s.heap H locs) (hl : lv_has ls 5 [(0, .ref (b + 306)), (1, .int a1), (2, .int x2), (3, .int x3)]) : W p l e ({ frames := 1, cells := 0, slots := 0, locals := 22 } : Room) s m args below meth c H locs 0 0 (MQ below (QW (fg G) b out none) args s 0 0 (fb b)) (F0 m 62 ls []) := by
  have hx := F.1
  have hb := F.2.1
  unfold sh_X12_flow_62 at h
  refine lv_iload_n hx hb dX12_flow_62 rfl (lv_at hl 2 rfl) ?_
  refine lv_if_eq (tgt := 96) hx hb dX12_flow_63 (by decide) (fun cc => ?_) (fun cc => ?_)
  · replace h := (if_pos cc).symm.trans h
    exact wk_X12_flow_96 F hr h hW hS (lv_sub hl [0, 1, 2, 3] rfl)
  · replace h := (if_neg cc).symm.trans h
    refine lv_aload_n hx hb dX12_flow_66 rfl (lv_at hl 0 rfl) ?_
    have pf12 := nd_ky hW.2.1
    refine fl_get12 (v := .ref (b + (μ.2.2 0))) kyf_306 F hW 3 (by decide) q_1474 rfl rfl dX12_flow_67 ?_
    refine lv_bipush (v := (8 : Int32)) hx hb dX12_flow_70 (by decide) ?_
    obtain ⟨v13, qv13, h⟩ := ob h
    refine fm_iald pf12 F hW qv13 dX12_flow_72 ?_
    refine lv_iconst (v := (1 : Int32)) hx hb dX12_flow_73 (by decide) ?_
    refine lv_icmp_ne (tgt := 96) hx hb dX12_flow_74 (by decide) (fun cc => ?_) (fun cc => ?_)
    · replace h := (if_neg cc).symm.trans h
      exact wk_X12_flow_96 F hr h hW hS (lv_sub hl [0, 1, 2, 3] rfl)
    · replace h := (if_pos cc).symm.trans h
      refine lv_aload_n hx hb dX12_flow_77 rfl (lv_at hl 0 rfl) ?_
      refine fl_get12 (v := .int (μ.1 306 25)) kyf_306 F hW 25 (by decide) q_1496 rfl rfl dX12_flow_78 ?_
      refine lv_iconst (v := (2 : Int32)) hx hb dX12_flow_81 (by decide) ?_
      obtain ⟨v14, qv14, h⟩ := ob h
      obtain ⟨zv14, qv14⟩ := rm_some qv14
      refine lv_irem hx hb dX12_flow_82 zv14 ?_
      rw [qv14]
      refine lv_if_ne (tgt := 96) hx hb dX12_flow_83 (by decide) (fun cc => ?_) (fun cc => ?_)
      · replace h := (if_neg cc).symm.trans h
        exact wk_X12_flow_96 F hr h hW hS (lv_sub hl [0, 1, 2, 3] rfl)
      · replace h := (if_pos cc).symm.trans h
        refine lv_aload_n hx hb dX12_flow_86 rfl (lv_at hl 0 rfl) ?_
        refine lv_dup hx hb dX12_flow_87 rfl ?_
        refine fl_get12 (v := .int (μ.1 306 25)) kyf_306 F hW 25 (by decide) q_1496 rfl rfl dX12_flow_88 ?_
        refine lv_iconst (v := (1 : Int32)) hx hb dX12_flow_91 (by decide) ?_
        refine lv_iadd hx hb dX12_flow_92 ?_
        obtain ⟨μ15, hmμ15, h⟩ := ob h
        refine fl_put12_25 kyf_306 F hW hS q_1496 hmμ15 dX12_flow_93 (fun H locs hW hS => ?_)
        exact wk_X12_flow_96 F hr h hW hS (lv_sub hl [0, 1, 2, 3] rfl)
set_option maxHeartbeats 4000000 in
set_option maxRecDepth 100000 in
theorem wk_X12_flow_47 {a1 : Int32} {x2 : Int32} {x3 : Int32} {μ : Mm} {out : Mm} (F : FX (fg G) b RX12 cX12_flow 5 p s m args meth c) (hr : meth.sig.returnType = none) (h : sh_X12_flow_47 a1 x2 x3 μ = some out) (hW : WH (fg G) b μ H) (hS : va_S (fb b) s.heap H locs) (hl : lv_has ls 5 [(0, .ref (b + 306)), (1, .int a1), (2, .int x2), (3, .int x3)]) : W p l e ({ frames := 1, cells := 0, slots := 0, locals := 22 } : Room) s m args below meth c H locs 0 0 (MQ below (QW (fg G) b out none) args s 0 0 (fb b)) (F0 m 47 ls []) := by
  have hx := F.1
  have hb := F.2.1
  unfold sh_X12_flow_47 at h
  refine lv_aload_n hx hb dX12_flow_47 rfl (lv_at hl 0 rfl) ?_
  refine lv_dup hx hb dX12_flow_48 rfl ?_
  refine fl_get12 (v := .int (μ.1 306 25)) kyf_306 F hW 25 (by decide) q_1496 rfl rfl dX12_flow_49 ?_
  refine lv_iconst (v := (1 : Int32)) hx hb dX12_flow_52 (by decide) ?_
  refine lv_iadd hx hb dX12_flow_53 ?_
  obtain ⟨μ16, hmμ16, h⟩ := ob h
  refine fl_put12_25 kyf_306 F hW hS q_1496 hmμ16 dX12_flow_54 (fun H locs hW hS => ?_)
  refine lv_aload_n hx hb dX12_flow_57 rfl (lv_at hl 0 rfl) ?_
  refine lv_iconst (v := (0 : Int32)) hx hb dX12_flow_58 (by decide) ?_
  obtain ⟨μ17, hmμ17, h⟩ := ob h
  refine fl_put12_26 kyf_306 F hW hS q_1497 hmμ17 dX12_flow_59 (fun H locs hW hS => ?_)
  exact wk_X12_flow_62 F hr h hW hS (lv_sub hl [0, 1, 2, 3] rfl)
set_option maxHeartbeats 4000000 in
set_option maxRecDepth 100000 in
theorem wk_X12_flow_15 {a1 : Int32} {s0 : Int32} {μ : Mm} {out : Mm} (F : FX (fg G) b RX12 cX12_flow 5 p s m args meth c) (hr : meth.sig.returnType = none) (h : sh_X12_flow_15 a1 s0 μ = some out) (hW : WH (fg G) b μ H) (hS : va_S (fb b) s.heap H locs) (hl : lv_has ls 5 [(0, .ref (b + 306)), (1, .int a1)]) : W p l e ({ frames := 1, cells := 0, slots := 0, locals := 22 } : Room) s m args below meth c H locs 0 0 (MQ below (QW (fg G) b out none) args s 0 0 (fb b)) (F0 m 15 ls [.int s0]) := by
  have hx := F.1
  have hb := F.2.1
  unfold sh_X12_flow_15 at h
  refine lv_istore_n (lv' := [(2, .int s0), (0, .ref (b + 306)), (1, .int a1)]) hx hb dX12_flow_15 rfl hl (by decide) rfl (fun ls hl => ?_)
  refine lv_aload_n hx hb dX12_flow_16 rfl (lv_at hl 1 rfl) ?_
  have pf2 := nd_ky hW.2.1
  refine fl_get12 (v := .ref (b + (μ.2.2 0))) kyf_306 F hW 3 (by decide) q_1474 rfl rfl dX12_flow_17 ?_
  refine lv_iconst (v := (2 : Int32)) hx hb dX12_flow_20 (by decide) ?_
  obtain ⟨v3, qv3, h⟩ := ob h
  refine fm_iald pf2 F hW qv3 dX12_flow_21 ?_
  refine lv_istore_n (lv' := [(3, .int v3), (2, .int s0), (0, .ref (b + 306)), (1, .int a1)]) hx hb dX12_flow_22 rfl hl (by decide) rfl (fun ls hl => ?_)
  refine lv_iload_n hx hb dX12_flow_23 rfl (lv_at hl 1 rfl) ?_
  refine lv_if_eq (tgt := 37) hx hb dX12_flow_24 (by decide) (fun cc => ?_) (fun cc => ?_)
  · replace h := (if_pos cc).symm.trans h
    refine lv_iload_n hx hb dX12_flow_37 rfl (lv_at hl 0 rfl) ?_
    refine lv_aload_n hx hb dX12_flow_38 rfl (lv_at hl 2 rfl) ?_
    refine fl_get12 (v := .int (μ.1 306 26)) kyf_306 F hW 26 (by decide) q_1497 rfl rfl dX12_flow_39 ?_
    refine lv_isub hx hb dX12_flow_42 ?_
    refine lv_iconst (v := (2 : Int32)) hx hb dX12_flow_43 (by decide) ?_
    refine lv_icmp_ge (tgt := 62) hx hb dX12_flow_44 (by decide) (fun cc => ?_) (fun cc => ?_)
    · replace h := (if_pos cc).symm.trans h
      exact wk_X12_flow_62 F hr h hW hS (lv_sub hl [2, 3, 1, 0] rfl)
    · replace h := (if_neg cc).symm.trans h
      exact wk_X12_flow_47 F hr h hW hS (lv_sub hl [2, 3, 1, 0] rfl)
  · replace h := (if_neg cc).symm.trans h
    refine lv_aload_n hx hb dX12_flow_27 rfl (lv_at hl 2 rfl) ?_
    refine fl_get12 (v := .int (μ.1 306 26)) kyf_306 F hW 26 (by decide) q_1497 rfl rfl dX12_flow_28 ?_
    refine lv_if_le (tgt := 62) hx hb dX12_flow_31 (by decide) (fun cc => ?_) (fun cc => ?_)
    · replace h := (if_pos cc).symm.trans h
      exact wk_X12_flow_62 F hr h hW hS (lv_sub hl [2, 3, 1, 0] rfl)
    · replace h := (if_neg cc).symm.trans h
      refine lv_goto (tgt := 47) hx hb dX12_flow_34 (by decide) ?_
      exact wk_X12_flow_47 F hr h hW hS (lv_sub hl [2, 3, 1, 0] rfl)
set_option maxHeartbeats 4000000 in
set_option maxRecDepth 100000 in
theorem wk_X12_flow {a1 : Int32} {μ : Mm} {out : Mm} (F : FX (fg G) b RX12 cX12_flow 5 p s m args meth c) (hr : meth.sig.returnType = none) (h : sh_X12_flow a1 μ = some out) (hW : WH (fg G) b μ H) (hS : va_S (fb b) s.heap H locs) (hl : lv_has ls 5 [(0, .ref (b + 306)), (1, .int a1)]) : W p l e ({ frames := 1, cells := 0, slots := 0, locals := 22 } : Room) s m args below meth c H locs 0 0 (MQ below (QW (fg G) b out none) args s 0 0 (fb b)) (F0 m 0 ls []) := by
  have hx := F.1
  have hb := F.2.1
  unfold sh_X12_flow at h
  refine lv_aload_n hx hb dX12_flow_0 rfl (lv_at hl 0 rfl) ?_
  refine lv_iload_n hx hb dX12_flow_1 rfl (lv_at hl 1 rfl) ?_
  refine lv_iconst (v := (0 : Int32)) hx hb dX12_flow_2 (by decide) ?_
  obtain ⟨r1, qr1, h⟩ := ob h
  refine k_X12_of F qr1 q_1735 ⟨Nat.le_of_ble_eq_true rfl, Nat.le_of_ble_eq_true rfl, Nat.le_of_ble_eq_true rfl, Nat.le_of_ble_eq_true rfl⟩ hW hS hl.1 (Nat.le_of_ble_eq_true rfl) dX12_flow_3 (fun H locs hW hS => ?_)
  refine lv_iconst (v := (1 : Int32)) hx hb dX12_flow_6 (by decide) ?_
  refine lv_icmp_ne (tgt := 14) hx hb dX12_flow_7 (by decide) (fun cc => ?_) (fun cc => ?_)
  · replace h := (if_neg cc).symm.trans h
    refine lv_iconst (v := (0 : Int32)) hx hb dX12_flow_14 (by decide) ?_
    exact wk_X12_flow_15 F hr h hW hS (lv_sub hl [0, 1] rfl)
  · replace h := (if_pos cc).symm.trans h
    refine lv_iconst (v := (1 : Int32)) hx hb dX12_flow_10 (by decide) ?_
    refine lv_goto (tgt := 15) hx hb dX12_flow_11 (by decide) ?_
    exact wk_X12_flow_15 F hr h hW hS (lv_sub hl [0, 1] rfl)
set_option maxHeartbeats 4000000 in
set_option maxRecDepth 100000 in
theorem c_X12_flow {l : Launch} {G : Gt} {b : Nat} {a1 : Int32} {μ : Mm} {out : Mm} (h : sh_X12_flow a1 μ = some out) : Met l yX12_flow (wU (Cond.code yX12_flow cX12_flow 5 none)) ({ frames := 1, cells := 0, slots := 0, locals := 22 } : Room) (PcW (fg G) b μ [.ref (b + 306), .int a1]) (QW (fg G) b out none) 0 0 (fb b) :=
  met_of [.ref (b + 306), .int a1] (by decide) (Nat.le_of_ble_eq_true rfl) (fun F hr hW hl => wk_X12_flow F hr h hW va_S.rf hl)
set_option maxHeartbeats 4000000 in
set_option maxRecDepth 100000 in
theorem k_X12_flow {own : String} {nL : Nat} (F : FX (fg G) b own cc nL p s m args meth c) {a1 : Int32} {μ : Mm} {out : Mm} (h : sh_X12_flow a1 μ = some out) {index : Nat} (hl : Cond.methodLink own index yX12_flow ∈ TBG) (hR : 1 + 1 ≤ R.frames ∧ 8 + (5 + 11) + 22 ≤ R.locals ∧ cells ≤ R.cells ∧ slots ≤ R.slots) (hW : WH (fg G) b μ H) (hS : va_S (fb b) s.heap H locs) (hsz : ls.size = nL) (hrest : (rest.map fun v => v.category).sum ≤ 8) (hdg : decode cc pc = .ok (.invokevirtual index, 3))
    (kk : ∀ (H1 : Heap) (locs1 : List Loc), WH (fg G) b out H1 → va_S (fb b) s.heap H1 locs1 → W p l e R s m args below meth c H1 locs1 cells slots Q (F0 m (pc + 3) ls (rest))) : W p l e R s m args below meth c H locs cells slots Q (F0 m pc ls (.int a1 :: .ref (b + 306) :: rest)) :=
  f_callV (As := [.int a1]) (ci := 12) (c_X12_flow h) ⟨rfl, rfl⟩ rfl (ky_lm kyf_306 (by decide)) (wF_12 kyf_306) q_1790 qp_71 q_14 q_1791 rfl ⟨by decide +kernel, by decide +kernel, (show (parseMethodDescriptor yX12_flow.desc).map (fun d => d.parameters.length) = some 1 by decide +kernel)⟩ F hl hR hW hS hsz hrest rfl hdg kk
set_option maxHeartbeats 4000000 in
set_option maxRecDepth 100000 in
theorem wk_X12_flowPart_15 {n : Nat} {a1 : Int32} {a2 : Int32} {out : (Int32 × Mm)} (F : FX (fg G) b RX12 cX12_flowPart 5 p s m args meth c) (hr : meth.sig.returnType = some .int) : ∀ (f : Nat) (x3 : Int32) (x4 : Int32) (μ : Mm) (H : Heap) (locs : List Loc) (ls : Array Slot), sh_X12_flowPart_15 n a1 a2 f x3 x4 μ = some out → WH (fg G) b μ H → va_S (fb b) s.heap H locs → lv_has ls 5 [(0, .ref (b + 306)), (1, .int a1), (2, .int a2), (3, .int x3), (4, .int x4)] → W p l e ({ frames := 2, cells := 0, slots := 0, locals := 46 } : Room) s m args below meth c H locs 0 0 (MQ below (QW (fg G) b out.2 (some (.int out.1))) args s 0 0 (fb b)) (F0 m 15 ls []) := by
  have hx := F.1
  have hb := F.2.1
  intro f
  induction f with
  | zero =>
    intro _ _ _ _ _ _ h
    rw [sh_X12_flowPart_15] at h
    cases h
  | succ f ih =>
    intro x3 x4 μ H locs ls h hW hS hl
    rw [sh_X12_flowPart_15] at h
    have hk15 := ih
    refine lv_iload hx hb dX12_flowPart_15 (lv_at hl 4 rfl) ?_
    refine lv_aload_n hx hb dX12_flowPart_17 rfl (lv_at hl 0 rfl) ?_
    have pf3 := nd_ky hW.2.1
    refine fl_get12 (v := .ref (b + (μ.2.2 0))) kyf_306 F hW 3 (by decide) q_1474 rfl rfl dX12_flowPart_18 ?_
    refine lv_bipush (v := (9 : Int32)) hx hb dX12_flowPart_21 (by decide) ?_
    obtain ⟨v4, qv4, h⟩ := ob h
    refine fm_iald pf3 F hW qv4 dX12_flowPart_23 ?_
    refine lv_icmp_ge (tgt := 55) hx hb dX12_flowPart_24 (by decide) (fun cc => ?_) (fun cc => ?_)
    · replace h := (if_pos cc).symm.trans h
      refine lv_iload_n hx hb dX12_flowPart_55 rfl (lv_at hl 3 rfl) ?_
      refine lv_if_eq (tgt := 68) hx hb dX12_flowPart_56 (by decide) (fun cc => ?_) (fun cc => ?_)
      · replace h := (if_pos cc).symm.trans h
        refine lv_iload_n hx hb dX12_flowPart_68 rfl (lv_at hl 2 rfl) ?_
        cases h
        exact r_int F hr hW hS dX12_flowPart_69
      · replace h := (if_neg cc).symm.trans h
        refine lv_aload_n hx hb dX12_flowPart_59 rfl (lv_at hl 0 rfl) ?_
        refine fl_get12 (v := .int (μ.1 306 25)) kyf_306 F hW 25 (by decide) q_1496 rfl rfl dX12_flowPart_60 ?_
        refine lv_iconst (v := (1 : Int32)) hx hb dX12_flowPart_63 (by decide) ?_
        refine lv_iadd hx hb dX12_flowPart_64 ?_
        refine lv_goto (tgt := 69) hx hb dX12_flowPart_65 (by decide) ?_
        cases h
        exact r_int F hr hW hS dX12_flowPart_69
    · replace h := (if_neg cc).symm.trans h
      refine lv_aload_n hx hb dX12_flowPart_27 rfl (lv_at hl 0 rfl) ?_
      refine lv_iload hx hb dX12_flowPart_28 (lv_at hl 4 rfl) ?_
      refine lv_iconst (v := (2 : Int32)) hx hb dX12_flowPart_30 (by decide) ?_
      obtain ⟨r5, qr5, h⟩ := ob h
      refine k_X12_of F qr5 q_1735 ⟨Nat.le_of_ble_eq_true rfl, Nat.le_of_ble_eq_true rfl, Nat.le_of_ble_eq_true rfl, Nat.le_of_ble_eq_true rfl⟩ hW hS hl.1 (Nat.le_of_ble_eq_true rfl) dX12_flowPart_31 (fun H locs hW hS => ?_)
      refine lv_iload_n hx hb dX12_flowPart_34 rfl (lv_at hl 1 rfl) ?_
      refine lv_icmp_eq (tgt := 41) hx hb dX12_flowPart_35 (by decide) (fun cc => ?_) (fun cc => ?_)
      · replace h := (if_pos cc).symm.trans h
        refine lv_aload_n hx hb dX12_flowPart_41 rfl (lv_at hl 0 rfl) ?_
        refine lv_iload hx hb dX12_flowPart_42 (lv_at hl 4 rfl) ?_
        obtain ⟨r6, qr6, h⟩ := ob h
        refine k_X12_flow F qr6 q_1788 ⟨Nat.le_of_ble_eq_true rfl, Nat.le_of_ble_eq_true rfl, Nat.le_of_ble_eq_true rfl, Nat.le_of_ble_eq_true rfl⟩ hW hS hl.1 (Nat.le_of_ble_eq_true rfl) dX12_flowPart_44 (fun H locs hW hS => ?_)
        refine lv_iconst (v := (1 : Int32)) hx hb dX12_flowPart_47 (by decide) ?_
        refine lv_istore_n (lv' := [(3, .int (1 : Int32)), (0, .ref (b + 306)), (1, .int a1), (2, .int a2), (4, .int x4)]) hx hb dX12_flowPart_48 rfl hl (by decide) rfl (fun ls hl => ?_)
        refine lv_iinc (v := (x4 + (1 : Int32))) (lv' := [(4, .int (x4 + (1 : Int32))), (3, .int (1 : Int32)), (0, .ref (b + 306)), (1, .int a1), (2, .int a2)]) hx hb dX12_flowPart_49 hl (k := 4) rfl rfl (by decide) rfl (fun ls hl => ?_)
        refine lv_goto (tgt := 15) hx hb dX12_flowPart_52 (by decide) ?_
        exact hk15 _ _ _ _ _ _ h hW hS (lv_sub hl [2, 3, 4, 1, 0] rfl)
      · replace h := (if_neg cc).symm.trans h
        refine lv_goto (tgt := 49) hx hb dX12_flowPart_38 (by decide) ?_
        refine lv_iinc (v := (x4 + (1 : Int32))) (lv' := [(4, .int (x4 + (1 : Int32))), (0, .ref (b + 306)), (1, .int a1), (2, .int a2), (3, .int x3)]) hx hb dX12_flowPart_49 hl (k := 4) rfl rfl (by decide) rfl (fun ls hl => ?_)
        refine lv_goto (tgt := 15) hx hb dX12_flowPart_52 (by decide) ?_
        exact hk15 _ _ _ _ _ _ h hW hS (lv_sub hl [1, 2, 3, 4, 0] rfl)
set_option maxHeartbeats 4000000 in
set_option maxRecDepth 100000 in
theorem wk_X12_flowPart {n : Nat} {a1 : Int32} {a2 : Int32} {μ : Mm} {out : (Int32 × Mm)} (F : FX (fg G) b RX12 cX12_flowPart 5 p s m args meth c) (hr : meth.sig.returnType = some .int) (h : sh_X12_flowPart n a1 a2 μ = some out) (hW : WH (fg G) b μ H) (hS : va_S (fb b) s.heap H locs) (hl : lv_has ls 5 [(0, .ref (b + 306)), (1, .int a1), (2, .int a2)]) : W p l e ({ frames := 2, cells := 0, slots := 0, locals := 46 } : Room) s m args below meth c H locs 0 0 (MQ below (QW (fg G) b out.2 (some (.int out.1))) args s 0 0 (fb b)) (F0 m 0 ls []) := by
  have hx := F.1
  have hb := F.2.1
  unfold sh_X12_flowPart at h
  refine lv_aload_n hx hb dX12_flowPart_0 rfl (lv_at hl 0 rfl) ?_
  refine lv_iload_n hx hb dX12_flowPart_1 rfl (lv_at hl 2 rfl) ?_
  obtain ⟨μ1, hmμ1, h⟩ := ob h
  refine fl_put12_25 kyf_306 F hW hS q_1496 hmμ1 dX12_flowPart_2 (fun H locs hW hS => ?_)
  refine lv_aload_n hx hb dX12_flowPart_5 rfl (lv_at hl 0 rfl) ?_
  refine lv_iconst (v := (0 : Int32)) hx hb dX12_flowPart_6 (by decide) ?_
  obtain ⟨μ2, hmμ2, h⟩ := ob h
  refine fl_put12_26 kyf_306 F hW hS q_1497 hmμ2 dX12_flowPart_7 (fun H locs hW hS => ?_)
  refine lv_iconst (v := (0 : Int32)) hx hb dX12_flowPart_10 (by decide) ?_
  refine lv_istore_n (lv' := [(3, .int (0 : Int32)), (0, .ref (b + 306)), (1, .int a1), (2, .int a2)]) hx hb dX12_flowPart_11 rfl hl (by decide) rfl (fun ls hl => ?_)
  refine lv_iconst (v := (0 : Int32)) hx hb dX12_flowPart_12 (by decide) ?_
  refine lv_istore (lv' := [(4, .int (0 : Int32)), (3, .int (0 : Int32)), (0, .ref (b + 306)), (1, .int a1), (2, .int a2)]) hx hb dX12_flowPart_13 hl (by decide) rfl (fun ls hl => ?_)
  exact wk_X12_flowPart_15 F hr n _ _ _ _ _ _ h hW hS (lv_sub hl [2, 3, 4, 1, 0] rfl)
set_option maxHeartbeats 4000000 in
set_option maxRecDepth 100000 in
theorem c_X12_flowPart {l : Launch} {G : Gt} {b : Nat} {n : Nat} {a1 : Int32} {a2 : Int32} {μ : Mm} {out : (Int32 × Mm)} (h : sh_X12_flowPart n a1 a2 μ = some out) : Met l yX12_flowPart (wU (Cond.code yX12_flowPart cX12_flowPart 5 (some .int))) ({ frames := 2, cells := 0, slots := 0, locals := 46 } : Room) (PcW (fg G) b μ [.ref (b + 306), .int a1, .int a2]) (QW (fg G) b out.2 (some (.int out.1))) 0 0 (fb b) :=
  met_of [.ref (b + 306), .int a1, .int a2] (by decide) (Nat.le_of_ble_eq_true rfl) (fun F hr hW hl => wk_X12_flowPart F hr h hW va_S.rf hl)
set_option maxHeartbeats 4000000 in
set_option maxRecDepth 100000 in
theorem k_X12_flowPart {own : String} {nL : Nat} (F : FX (fg G) b own cc nL p s m args meth c) {n : Nat} {a1 : Int32} {a2 : Int32} {μ : Mm} {out : (Int32 × Mm)} (h : sh_X12_flowPart n a1 a2 μ = some out) {index : Nat} (hl : Cond.methodLink own index yX12_flowPart ∈ TBG) (hR : 2 + 1 ≤ R.frames ∧ 8 + (5 + 11) + 46 ≤ R.locals ∧ cells ≤ R.cells ∧ slots ≤ R.slots) (hW : WH (fg G) b μ H) (hS : va_S (fb b) s.heap H locs) (hsz : ls.size = nL) (hrest : (rest.map fun v => v.category).sum ≤ 8) (hdg : decode cc pc = .ok (.invokevirtual index, 3))
    (kk : ∀ (H1 : Heap) (locs1 : List Loc), WH (fg G) b out.2 H1 → va_S (fb b) s.heap H1 locs1 → W p l e R s m args below meth c H1 locs1 cells slots Q (F0 m (pc + 3) ls (.int out.1 :: rest))) : W p l e R s m args below meth c H locs cells slots Q (F0 m pc ls (.int a2 :: .int a1 :: .ref (b + 306) :: rest)) :=
  f_callV (As := [.int a1, .int a2]) (ci := 12) (c_X12_flowPart h) ⟨rfl, rfl⟩ rfl (ky_lm kyf_306 (by decide)) (wF_12 kyf_306) q_1786 qp_70 q_14 q_1787 rfl ⟨by decide +kernel, by decide +kernel, (show (parseMethodDescriptor yX12_flowPart.desc).map (fun d => d.parameters.length) = some 2 by decide +kernel)⟩ F hl hR hW hS hsz hrest rfl hdg kk
set_option maxHeartbeats 4000000 in
set_option maxRecDepth 100000 in
theorem wk_X12_layPages_60 {n : Nat} {a1 : Int32} {x3 : Int32} {s1 : Int32} {μ : Mm} {out : Mm} (F : FX (fg G) b RX12 cX12_layPages 4 p s m args meth c) (hr : meth.sig.returnType = none) (h : sh_X12_layPages_60 n a1 x3 s1 μ = some out) (hW : WH (fg G) b μ H) (hS : va_S (fb b) s.heap H locs) (hl : lv_has ls 4 [(0, .ref (b + 306)), (3, .int x3)]) : W p l e ({ frames := 3, cells := 0, slots := 0, locals := 70 } : Room) s m args below meth c H locs 0 0 (MQ below (QW (fg G) b out none) args s 0 0 (fb b)) (F0 m 60 ls [.int s1, .ref (b + 306)]) := by
  have hx := F.1
  have hb := F.2.1
  unfold sh_X12_layPages_60 at h
  obtain ⟨μ9, hmμ9, h⟩ := ob h
  refine fl_put12_23 kyf_306 F hW hS q_1494 hmμ9 dX12_layPages_60 (fun H locs hW hS => ?_)
  refine lv_aload_n hx hb dX12_layPages_63 rfl (lv_at hl 0 rfl) ?_
  refine lv_aload_n hx hb dX12_layPages_64 rfl (lv_at hl 0 rfl) ?_
  refine fl_get12 (v := .int (μ9.1 306 23)) kyf_306 F hW 23 (by decide) q_1494 rfl rfl dX12_layPages_65 ?_
  refine lv_iload_n hx hb dX12_layPages_68 rfl (lv_at hl 1 rfl) ?_
  refine lv_iadd hx hb dX12_layPages_69 ?_
  refine lv_iconst (v := (1 : Int32)) hx hb dX12_layPages_70 (by decide) ?_
  refine lv_isub hx hb dX12_layPages_71 ?_
  obtain ⟨μ10, hmμ10, h⟩ := ob h
  refine fl_put12_24 kyf_306 F hW hS q_1495 hmμ10 dX12_layPages_72 (fun H locs hW hS => ?_)
  cases h
  exact r_void F hr hW hS dX12_layPages_75
set_option maxHeartbeats 4000000 in
set_option maxRecDepth 100000 in
theorem wk_X12_layPages_59 {n : Nat} {a1 : Int32} {x2 : Int32} {x3 : Int32} {μ : Mm} {out : Mm} (F : FX (fg G) b RX12 cX12_layPages 4 p s m args meth c) (hr : meth.sig.returnType = none) (h : sh_X12_layPages_59 n a1 x2 x3 μ = some out) (hW : WH (fg G) b μ H) (hS : va_S (fb b) s.heap H locs) (hl : lv_has ls 4 [(0, .ref (b + 306)), (2, .int x2), (3, .int x3)]) : W p l e ({ frames := 3, cells := 0, slots := 0, locals := 70 } : Room) s m args below meth c H locs 0 0 (MQ below (QW (fg G) b out none) args s 0 0 (fb b)) (F0 m 59 ls [.ref (b + 306)]) := by
  have hx := F.1
  have hb := F.2.1
  unfold sh_X12_layPages_59 at h
  refine lv_iload_n hx hb dX12_layPages_59 rfl (lv_at hl 1 rfl) ?_
  exact wk_X12_layPages_60 F hr h hW hS (lv_sub hl [0, 2] rfl)
set_option maxHeartbeats 4000000 in
set_option maxRecDepth 100000 in
theorem wk_X12_layPages {n : Nat} {a1 : Int32} {μ : Mm} {out : Mm} (F : FX (fg G) b RX12 cX12_layPages 4 p s m args meth c) (hr : meth.sig.returnType = none) (h : sh_X12_layPages n a1 μ = some out) (hW : WH (fg G) b μ H) (hS : va_S (fb b) s.heap H locs) (hl : lv_has ls 4 [(0, .ref (b + 306)), (1, .int a1)]) : W p l e ({ frames := 3, cells := 0, slots := 0, locals := 70 } : Room) s m args below meth c H locs 0 0 (MQ below (QW (fg G) b out none) args s 0 0 (fb b)) (F0 m 0 ls []) := by
  have hx := F.1
  have hb := F.2.1
  unfold sh_X12_layPages at h
  refine lv_aload_n hx hb dX12_layPages_0 rfl (lv_at hl 0 rfl) ?_
  refine lv_iconst (v := (0 : Int32)) hx hb dX12_layPages_1 (by decide) ?_
  refine lv_iload_n hx hb dX12_layPages_2 rfl (lv_at hl 1 rfl) ?_
  refine lv_iconst (v := (1 : Int32)) hx hb dX12_layPages_3 (by decide) ?_
  refine lv_iadd hx hb dX12_layPages_4 ?_
  obtain ⟨r1, qr1, h⟩ := ob h
  refine k_X12_flowPart F qr1 q_1784 ⟨Nat.le_of_ble_eq_true rfl, Nat.le_of_ble_eq_true rfl, Nat.le_of_ble_eq_true rfl, Nat.le_of_ble_eq_true rfl⟩ hW hS hl.1 (Nat.le_of_ble_eq_true rfl) dX12_layPages_5 (fun H locs hW hS => ?_)
  obtain ⟨v2, ev2⟩ : ∃ y, y = r1.1 := ⟨_, rfl⟩
  have h := nm_at ev2 h
  rw [← ev2]
  refine lv_istore_n (lv' := [(2, .int v2), (0, .ref (b + 306)), (1, .int a1)]) hx hb dX12_layPages_8 rfl hl (by decide) rfl (fun ls hl => ?_)
  refine lv_aload_n hx hb dX12_layPages_9 rfl (lv_at hl 1 rfl) ?_
  refine lv_iload_n hx hb dX12_layPages_10 rfl (lv_at hl 0 rfl) ?_
  refine lv_iconst (v := (1 : Int32)) hx hb dX12_layPages_11 (by decide) ?_
  refine lv_isub hx hb dX12_layPages_12 ?_
  obtain ⟨μ3, hmμ3, h⟩ := ob h
  refine fl_put12_24 kyf_306 F hW hS q_1495 hmμ3 dX12_layPages_13 (fun H locs hW hS => ?_)
  refine lv_aload_n hx hb dX12_layPages_16 rfl (lv_at hl 1 rfl) ?_
  refine lv_iconst (v := (0 : Int32)) hx hb dX12_layPages_17 (by decide) ?_
  obtain ⟨μ4, hmμ4, h⟩ := ob h
  refine fl_put12_23 kyf_306 F hW hS q_1494 hmμ4 dX12_layPages_18 (fun H locs hW hS => ?_)
  refine lv_aload_n hx hb dX12_layPages_21 rfl (lv_at hl 1 rfl) ?_
  refine lv_iconst (v := (1 : Int32)) hx hb dX12_layPages_22 (by decide) ?_
  refine lv_iconst (v := (1 : Int32)) hx hb dX12_layPages_23 (by decide) ?_
  obtain ⟨r5, qr5, h⟩ := ob h
  refine k_X12_flowPart F qr5 q_1784 ⟨Nat.le_of_ble_eq_true rfl, Nat.le_of_ble_eq_true rfl, Nat.le_of_ble_eq_true rfl, Nat.le_of_ble_eq_true rfl⟩ hW hS hl.1 (Nat.le_of_ble_eq_true rfl) dX12_layPages_24 (fun H locs hW hS => ?_)
  refine lv_iconst (v := (1 : Int32)) hx hb dX12_layPages_27 (by decide) ?_
  refine lv_isub hx hb dX12_layPages_28 ?_
  obtain ⟨v6, ev6⟩ : ∃ y, y = (r5.1 - (1 : Int32)) := ⟨_, rfl⟩
  have h := nm_at ev6 h
  rw [← ev6]
  refine lv_istore_n (lv' := [(3, .int v6), (2, .int v2), (0, .ref (b + 306)), (1, .int a1)]) hx hb dX12_layPages_29 rfl hl (by decide) rfl (fun ls hl => ?_)
  refine lv_iload_n hx hb dX12_layPages_30 rfl (lv_at hl 0 rfl) ?_
  refine lv_if_ne (tgt := 35) hx hb dX12_layPages_31 (by decide) (fun cc => ?_) (fun cc => ?_)
  · replace h := (if_neg cc).symm.trans h
    refine lv_aload_n hx hb dX12_layPages_35 rfl (lv_at hl 2 rfl) ?_
    refine lv_aload_n hx hb dX12_layPages_36 rfl (lv_at hl 2 rfl) ?_
    have pf7 := nd_ky hW.2.1
    refine fl_get12 (v := .ref (b + (r5.2.2.2 0))) kyf_306 F hW 3 (by decide) q_1474 rfl rfl dX12_layPages_37 ?_
    refine lv_bipush (v := (8 : Int32)) hx hb dX12_layPages_40 (by decide) ?_
    obtain ⟨v8, qv8, h⟩ := ob h
    refine fm_iald pf7 F hW qv8 dX12_layPages_42 ?_
    refine lv_iconst (v := (1 : Int32)) hx hb dX12_layPages_43 (by decide) ?_
    refine lv_icmp_ne (tgt := 59) hx hb dX12_layPages_44 (by decide) (fun cc => ?_) (fun cc => ?_)
    · replace h := (if_neg cc).symm.trans h
      exact wk_X12_layPages_59 F hr h hW hS (lv_sub hl [2, 1, 0] rfl)
    · replace h := (if_pos cc).symm.trans h
      refine lv_iload_n hx hb dX12_layPages_47 rfl (lv_at hl 1 rfl) ?_
      refine lv_iconst (v := (2 : Int32)) hx hb dX12_layPages_48 (by decide) ?_
      obtain ⟨v11, qv11, h⟩ := ob h
      obtain ⟨zv11, qv11⟩ := rm_some qv11
      refine lv_irem hx hb dX12_layPages_49 zv11 ?_
      rw [qv11]
      refine lv_if_ne (tgt := 59) hx hb dX12_layPages_50 (by decide) (fun cc => ?_) (fun cc => ?_)
      · replace h := (if_neg cc).symm.trans h
        exact wk_X12_layPages_59 F hr h hW hS (lv_sub hl [2, 1, 0] rfl)
      · replace h := (if_pos cc).symm.trans h
        refine lv_iload_n hx hb dX12_layPages_53 rfl (lv_at hl 1 rfl) ?_
        refine lv_iconst (v := (1 : Int32)) hx hb dX12_layPages_54 (by decide) ?_
        refine lv_iadd hx hb dX12_layPages_55 ?_
        refine lv_goto (tgt := 60) hx hb dX12_layPages_56 (by decide) ?_
        exact wk_X12_layPages_60 F hr h hW hS (lv_sub hl [2, 0] rfl)
  · replace h := (if_pos cc).symm.trans h
    cases h
    exact r_void F hr hW hS dX12_layPages_34
set_option maxHeartbeats 4000000 in
set_option maxRecDepth 100000 in
theorem c_X12_layPages {l : Launch} {G : Gt} {b : Nat} {n : Nat} {a1 : Int32} {μ : Mm} {out : Mm} (h : sh_X12_layPages n a1 μ = some out) : Met l yX12_layPages (wU (Cond.code yX12_layPages cX12_layPages 4 none)) ({ frames := 3, cells := 0, slots := 0, locals := 70 } : Room) (PcW (fg G) b μ [.ref (b + 306), .int a1]) (QW (fg G) b out none) 0 0 (fb b) :=
  met_of [.ref (b + 306), .int a1] (by decide) (Nat.le_of_ble_eq_true rfl) (fun F hr hW hl => wk_X12_layPages F hr h hW va_S.rf hl)
set_option maxHeartbeats 4000000 in
set_option maxRecDepth 100000 in
theorem k_X12_layPages {own : String} {nL : Nat} (F : FX (fg G) b own cc nL p s m args meth c) {n : Nat} {a1 : Int32} {μ : Mm} {out : Mm} (h : sh_X12_layPages n a1 μ = some out) {index : Nat} (hl : Cond.methodLink own index yX12_layPages ∈ TBG) (hR : 3 + 1 ≤ R.frames ∧ 8 + (4 + 11) + 70 ≤ R.locals ∧ cells ≤ R.cells ∧ slots ≤ R.slots) (hW : WH (fg G) b μ H) (hS : va_S (fb b) s.heap H locs) (hsz : ls.size = nL) (hrest : (rest.map fun v => v.category).sum ≤ 8) (hdg : decode cc pc = .ok (.invokevirtual index, 3))
    (kk : ∀ (H1 : Heap) (locs1 : List Loc), WH (fg G) b out H1 → va_S (fb b) s.heap H1 locs1 → W p l e R s m args below meth c H1 locs1 cells slots Q (F0 m (pc + 3) ls (rest))) : W p l e R s m args below meth c H locs cells slots Q (F0 m pc ls (.int a1 :: .ref (b + 306) :: rest)) :=
  f_callV (As := [.int a1]) (ci := 12) (c_X12_layPages h) ⟨rfl, rfl⟩ rfl (ky_lm kyf_306 (by decide)) (wF_12 kyf_306) q_1782 qp_69 q_14 q_1783 rfl ⟨by decide +kernel, by decide +kernel, (show (parseMethodDescriptor yX12_layPages.desc).map (fun d => d.parameters.length) = some 1 by decide +kernel)⟩ F hl hR hW hS hsz hrest rfl hdg kk
set_option maxHeartbeats 4000000 in
set_option maxRecDepth 100000 in
theorem wk_X12_bookPageOf {a1 : Int32} {μ : Mm} {out : Int32} (F : FX (fg G) b RX12 cX12_bookPageOf 2 p s m args meth c) (hr : meth.sig.returnType = some .int) (h : sh_X12_bookPageOf a1 μ = some out) (hW : WH (fg G) b μ H) (hS : va_S (fb b) s.heap H locs) (hl : lv_has ls 2 [(0, .ref (b + 306)), (1, .int a1)]) : W p l e ({ frames := 1, cells := 0, slots := 0, locals := 22 } : Room) s m args below meth c H locs 0 0 (MQ below (QW (fg G) b μ (some (.int out))) args s 0 0 (fb b)) (F0 m 0 ls []) := by
  have hx := F.1
  have hb := F.2.1
  unfold sh_X12_bookPageOf at h
  refine lv_aload_n hx hb dX12_bookPageOf_0 rfl (lv_at hl 0 rfl) ?_
  refine lv_iload_n hx hb dX12_bookPageOf_1 rfl (lv_at hl 1 rfl) ?_
  refine lv_iconst (v := (2 : Int32)) hx hb dX12_bookPageOf_2 (by decide) ?_
  obtain ⟨r1, qr1, h⟩ := ob h
  refine k_X12_of F qr1 q_1735 ⟨Nat.le_of_ble_eq_true rfl, Nat.le_of_ble_eq_true rfl, Nat.le_of_ble_eq_true rfl, Nat.le_of_ble_eq_true rfl⟩ hW hS hl.1 (Nat.le_of_ble_eq_true rfl) dX12_bookPageOf_3 (fun H locs hW hS => ?_)
  refine lv_if_ne (tgt := 18) hx hb dX12_bookPageOf_6 (by decide) (fun cc => ?_) (fun cc => ?_)
  · replace h := (if_neg cc).symm.trans h
    refine lv_aload_n hx hb dX12_bookPageOf_18 rfl (lv_at hl 0 rfl) ?_
    refine fl_get12 (v := .int (μ.1 306 23)) kyf_306 F hW 23 (by decide) q_1494 rfl rfl dX12_bookPageOf_19 ?_
    refine lv_aload_n hx hb dX12_bookPageOf_22 rfl (lv_at hl 0 rfl) ?_
    refine fl_get12 (v := .ref (b + 314)) kyf_306 F hW 21 (by decide) q_1492 rfl rfl dX12_bookPageOf_23 ?_
    refine lv_iload_n hx hb dX12_bookPageOf_26 rfl (lv_at hl 1 rfl) ?_
    obtain ⟨v2, qv2, h⟩ := ob h
    refine fm_iald kyf_314 F hW qv2 dX12_bookPageOf_27 ?_
    refine lv_iadd hx hb dX12_bookPageOf_28 ?_
    refine lv_iconst (v := (1 : Int32)) hx hb dX12_bookPageOf_29 (by decide) ?_
    refine lv_isub hx hb dX12_bookPageOf_30 ?_
    cases h
    exact r_int F hr hW hS dX12_bookPageOf_31
  · replace h := (if_pos cc).symm.trans h
    refine lv_aload_n hx hb dX12_bookPageOf_9 rfl (lv_at hl 0 rfl) ?_
    refine fl_get12 (v := .ref (b + 314)) kyf_306 F hW 21 (by decide) q_1492 rfl rfl dX12_bookPageOf_10 ?_
    refine lv_iload_n hx hb dX12_bookPageOf_13 rfl (lv_at hl 1 rfl) ?_
    obtain ⟨v3, qv3, h⟩ := ob h
    refine fm_iald kyf_314 F hW qv3 dX12_bookPageOf_14 ?_
    refine lv_goto (tgt := 31) hx hb dX12_bookPageOf_15 (by decide) ?_
    cases h
    exact r_int F hr hW hS dX12_bookPageOf_31
set_option maxHeartbeats 4000000 in
set_option maxRecDepth 100000 in
theorem c_X12_bookPageOf {l : Launch} {G : Gt} {b : Nat} {a1 : Int32} {μ : Mm} {out : Int32} (h : sh_X12_bookPageOf a1 μ = some out) : Met l yX12_bookPageOf (wU (Cond.code yX12_bookPageOf cX12_bookPageOf 2 (some .int))) ({ frames := 1, cells := 0, slots := 0, locals := 22 } : Room) (PcW (fg G) b μ [.ref (b + 306), .int a1]) (QW (fg G) b μ (some (.int out))) 0 0 (fb b) :=
  met_of [.ref (b + 306), .int a1] (by decide) (Nat.le_of_ble_eq_true rfl) (fun F hr hW hl => wk_X12_bookPageOf F hr h hW va_S.rf hl)
set_option maxHeartbeats 4000000 in
set_option maxRecDepth 100000 in
theorem k_X12_bookPageOf {own : String} {nL : Nat} (F : FX (fg G) b own cc nL p s m args meth c) {a1 : Int32} {μ : Mm} {out : Int32} (h : sh_X12_bookPageOf a1 μ = some out) {index : Nat} (hl : Cond.methodLink own index yX12_bookPageOf ∈ TBG) (hR : 1 + 1 ≤ R.frames ∧ 8 + (2 + 11) + 22 ≤ R.locals ∧ cells ≤ R.cells ∧ slots ≤ R.slots) (hW : WH (fg G) b μ H) (hS : va_S (fb b) s.heap H locs) (hsz : ls.size = nL) (hrest : (rest.map fun v => v.category).sum ≤ 8) (hdg : decode cc pc = .ok (.invokevirtual index, 3))
    (kk : ∀ (H1 : Heap) (locs1 : List Loc), WH (fg G) b μ H1 → va_S (fb b) s.heap H1 locs1 → W p l e R s m args below meth c H1 locs1 cells slots Q (F0 m (pc + 3) ls (.int out :: rest))) : W p l e R s m args below meth c H locs cells slots Q (F0 m pc ls (.int a1 :: .ref (b + 306) :: rest)) :=
  f_callV (As := [.int a1]) (ci := 12) (c_X12_bookPageOf h) ⟨rfl, rfl⟩ rfl (ky_lm kyf_306 (by decide)) (wF_12 kyf_306) q_1903 qp_92 q_14 q_1904 rfl ⟨by decide +kernel, by decide +kernel, (show (parseMethodDescriptor yX12_bookPageOf.desc).map (fun d => d.parameters.length) = some 1 by decide +kernel)⟩ F hl hR hW hS hsz hrest rfl hdg kk
set_option maxHeartbeats 4000000 in
set_option maxRecDepth 100000 in
theorem wk_X12_putPrinted {n : Nat} {a1 : Int32} {μ : Mm} {out : Mm} (F : FX (fg G) b RX12 cX12_putPrinted 2 p s m args meth c) (hr : meth.sig.returnType = none) (h : sh_X12_putPrinted n a1 μ = some out) (hW : WH (fg G) b μ H) (hS : va_S (fb b) s.heap H locs) (hl : lv_has ls 2 [(0, .ref (b + 306)), (1, .int a1)]) : W p l e ({ frames := 3, cells := 0, slots := 0, locals := 69 } : Room) s m args below meth c H locs 0 0 (MQ below (QW (fg G) b out none) args s 0 0 (fb b)) (F0 m 0 ls []) := by
  have hx := F.1
  have hb := F.2.1
  unfold sh_X12_putPrinted at h
  refine lv_aload_n hx hb dX12_putPrinted_0 rfl (lv_at hl 0 rfl) ?_
  refine lv_iload_n hx hb dX12_putPrinted_1 rfl (lv_at hl 1 rfl) ?_
  refine lv_iconst (v := (2 : Int32)) hx hb dX12_putPrinted_2 (by decide) ?_
  obtain ⟨r1, qr1, h⟩ := ob h
  refine k_X12_of F qr1 q_1735 ⟨Nat.le_of_ble_eq_true rfl, Nat.le_of_ble_eq_true rfl, Nat.le_of_ble_eq_true rfl, Nat.le_of_ble_eq_true rfl⟩ hW hS hl.1 (Nat.le_of_ble_eq_true rfl) dX12_putPrinted_3 (fun H locs hW hS => ?_)
  refine lv_if_ne (tgt := 22) hx hb dX12_putPrinted_6 (by decide) (fun cc => ?_) (fun cc => ?_)
  · replace h := (if_neg cc).symm.trans h
    refine lv_aload_n hx hb dX12_putPrinted_22 rfl (lv_at hl 0 rfl) ?_
    refine lv_aload_n hx hb dX12_putPrinted_23 rfl (lv_at hl 0 rfl) ?_
    refine fl_get12 (v := .ref (b + 314)) kyf_306 F hW 21 (by decide) q_1492 rfl rfl dX12_putPrinted_24 ?_
    refine lv_iload_n hx hb dX12_putPrinted_27 rfl (lv_at hl 1 rfl) ?_
    obtain ⟨v2, qv2, h⟩ := ob h
    refine fm_iald kyf_314 F hW qv2 dX12_putPrinted_28 ?_
    obtain ⟨r3, qr3, h⟩ := ob h
    refine k_X12_putNumber F qr3 q_1812 ⟨Nat.le_of_ble_eq_true rfl, Nat.le_of_ble_eq_true rfl, Nat.le_of_ble_eq_true rfl, Nat.le_of_ble_eq_true rfl⟩ hW hS hl.1 (Nat.le_of_ble_eq_true rfl) dX12_putPrinted_29 (fun H locs hW hS => ?_)
    cases h
    exact r_void F hr hW hS dX12_putPrinted_32
  · replace h := (if_pos cc).symm.trans h
    refine lv_aload_n hx hb dX12_putPrinted_9 rfl (lv_at hl 0 rfl) ?_
    refine lv_aload_n hx hb dX12_putPrinted_10 rfl (lv_at hl 0 rfl) ?_
    refine fl_get12 (v := .ref (b + 314)) kyf_306 F hW 21 (by decide) q_1492 rfl rfl dX12_putPrinted_11 ?_
    refine lv_iload_n hx hb dX12_putPrinted_14 rfl (lv_at hl 1 rfl) ?_
    obtain ⟨v4, qv4, h⟩ := ob h
    refine fm_iald kyf_314 F hW qv4 dX12_putPrinted_15 ?_
    obtain ⟨r5, qr5, h⟩ := ob h
    refine k_X12_putRoman F qr5 q_1800 ⟨Nat.le_of_ble_eq_true rfl, Nat.le_of_ble_eq_true rfl, Nat.le_of_ble_eq_true rfl, Nat.le_of_ble_eq_true rfl⟩ hW hS hl.1 (Nat.le_of_ble_eq_true rfl) dX12_putPrinted_16 (fun H locs hW hS => ?_)
    refine lv_goto (tgt := 32) hx hb dX12_putPrinted_19 (by decide) ?_
    cases h
    exact r_void F hr hW hS dX12_putPrinted_32
set_option maxHeartbeats 4000000 in
set_option maxRecDepth 100000 in
theorem c_X12_putPrinted {l : Launch} {G : Gt} {b : Nat} {n : Nat} {a1 : Int32} {μ : Mm} {out : Mm} (h : sh_X12_putPrinted n a1 μ = some out) : Met l yX12_putPrinted (wU (Cond.code yX12_putPrinted cX12_putPrinted 2 none)) ({ frames := 3, cells := 0, slots := 0, locals := 69 } : Room) (PcW (fg G) b μ [.ref (b + 306), .int a1]) (QW (fg G) b out none) 0 0 (fb b) :=
  met_of [.ref (b + 306), .int a1] (by decide) (Nat.le_of_ble_eq_true rfl) (fun F hr hW hl => wk_X12_putPrinted F hr h hW va_S.rf hl)
set_option maxHeartbeats 4000000 in
set_option maxRecDepth 100000 in
theorem k_X12_putPrinted {own : String} {nL : Nat} (F : FX (fg G) b own cc nL p s m args meth c) {n : Nat} {a1 : Int32} {μ : Mm} {out : Mm} (h : sh_X12_putPrinted n a1 μ = some out) {index : Nat} (hl : Cond.methodLink own index yX12_putPrinted ∈ TBG) (hR : 3 + 1 ≤ R.frames ∧ 8 + (2 + 11) + 69 ≤ R.locals ∧ cells ≤ R.cells ∧ slots ≤ R.slots) (hW : WH (fg G) b μ H) (hS : va_S (fb b) s.heap H locs) (hsz : ls.size = nL) (hrest : (rest.map fun v => v.category).sum ≤ 8) (hdg : decode cc pc = .ok (.invokevirtual index, 3))
    (kk : ∀ (H1 : Heap) (locs1 : List Loc), WH (fg G) b out H1 → va_S (fb b) s.heap H1 locs1 → W p l e R s m args below meth c H1 locs1 cells slots Q (F0 m (pc + 3) ls (rest))) : W p l e R s m args below meth c H locs cells slots Q (F0 m pc ls (.int a1 :: .ref (b + 306) :: rest)) :=
  f_callV (As := [.int a1]) (ci := 12) (c_X12_putPrinted h) ⟨rfl, rfl⟩ rfl (ky_lm kyf_306 (by decide)) (wF_12 kyf_306) q_1798 qp_73 q_14 q_1799 rfl ⟨by decide +kernel, by decide +kernel, (show (parseMethodDescriptor yX12_putPrinted.desc).map (fun d => d.parameters.length) = some 1 by decide +kernel)⟩ F hl hR hW hS hsz hrest rfl hdg kk
set_option maxHeartbeats 4000000 in
set_option maxRecDepth 100000 in
theorem wk_X12_printedWidth {n : Nat} {a1 : Int32} {μ : Mm} {out : (Int32 × Mm)} (F : FX (fg G) b RX12 cX12_printedWidth 2 p s m args meth c) (hr : meth.sig.returnType = some .int) (h : sh_X12_printedWidth n a1 μ = some out) (hW : WH (fg G) b μ H) (hS : va_S (fb b) s.heap H locs) (hl : lv_has ls 2 [(0, .ref (b + 306)), (1, .int a1)]) : W p l e ({ frames := 4, cells := 0, slots := 0, locals := 90 } : Room) s m args below meth c H locs 0 0 (MQ below (QW (fg G) b out.2 (some (.int out.1))) args s 0 0 (fb b)) (F0 m 0 ls []) := by
  have hx := F.1
  have hb := F.2.1
  unfold sh_X12_printedWidth at h
  refine lv_aload_n hx hb dX12_printedWidth_0 rfl (lv_at hl 0 rfl) ?_
  refine lv_iconst (v := (0 : Int32)) hx hb dX12_printedWidth_1 (by decide) ?_
  obtain ⟨μ1, hmμ1, h⟩ := ob h
  refine fl_put12_17 kyf_306 F hW hS q_1488 hmμ1 dX12_printedWidth_2 (fun H locs hW hS => ?_)
  refine lv_aload_n hx hb dX12_printedWidth_5 rfl (lv_at hl 0 rfl) ?_
  refine lv_iload_n hx hb dX12_printedWidth_6 rfl (lv_at hl 1 rfl) ?_
  obtain ⟨r2, qr2, h⟩ := ob h
  refine k_X12_putPrinted F qr2 q_1796 ⟨Nat.le_of_ble_eq_true rfl, Nat.le_of_ble_eq_true rfl, Nat.le_of_ble_eq_true rfl, Nat.le_of_ble_eq_true rfl⟩ hW hS hl.1 (Nat.le_of_ble_eq_true rfl) dX12_printedWidth_7 (fun H locs hW hS => ?_)
  refine lv_aload_n hx hb dX12_printedWidth_10 rfl (lv_at hl 0 rfl) ?_
  refine lv_iconst (v := (0 : Int32)) hx hb dX12_printedWidth_11 (by decide) ?_
  obtain ⟨r3, qr3, h⟩ := ob h
  refine k_X12_textWidth F qr3 q_1816 ⟨Nat.le_of_ble_eq_true rfl, Nat.le_of_ble_eq_true rfl, Nat.le_of_ble_eq_true rfl, Nat.le_of_ble_eq_true rfl⟩ hW hS hl.1 (Nat.le_of_ble_eq_true rfl) dX12_printedWidth_12 (fun H locs hW hS => ?_)
  cases h
  exact r_int F hr hW hS dX12_printedWidth_15
set_option maxHeartbeats 4000000 in
set_option maxRecDepth 100000 in
theorem c_X12_printedWidth {l : Launch} {G : Gt} {b : Nat} {n : Nat} {a1 : Int32} {μ : Mm} {out : (Int32 × Mm)} (h : sh_X12_printedWidth n a1 μ = some out) : Met l yX12_printedWidth (wU (Cond.code yX12_printedWidth cX12_printedWidth 2 (some .int))) ({ frames := 4, cells := 0, slots := 0, locals := 90 } : Room) (PcW (fg G) b μ [.ref (b + 306), .int a1]) (QW (fg G) b out.2 (some (.int out.1))) 0 0 (fb b) :=
  met_of [.ref (b + 306), .int a1] (by decide) (Nat.le_of_ble_eq_true rfl) (fun F hr hW hl => wk_X12_printedWidth F hr h hW va_S.rf hl)
set_option maxHeartbeats 4000000 in
set_option maxRecDepth 100000 in
theorem k_X12_printedWidth {own : String} {nL : Nat} (F : FX (fg G) b own cc nL p s m args meth c) {n : Nat} {a1 : Int32} {μ : Mm} {out : (Int32 × Mm)} (h : sh_X12_printedWidth n a1 μ = some out) {index : Nat} (hl : Cond.methodLink own index yX12_printedWidth ∈ TBG) (hR : 4 + 1 ≤ R.frames ∧ 8 + (2 + 11) + 90 ≤ R.locals ∧ cells ≤ R.cells ∧ slots ≤ R.slots) (hW : WH (fg G) b μ H) (hS : va_S (fb b) s.heap H locs) (hsz : ls.size = nL) (hrest : (rest.map fun v => v.category).sum ≤ 8) (hdg : decode cc pc = .ok (.invokevirtual index, 3))
    (kk : ∀ (H1 : Heap) (locs1 : List Loc), WH (fg G) b out.2 H1 → va_S (fb b) s.heap H1 locs1 → W p l e R s m args below meth c H1 locs1 cells slots Q (F0 m (pc + 3) ls (.int out.1 :: rest))) : W p l e R s m args below meth c H locs cells slots Q (F0 m pc ls (.int a1 :: .ref (b + 306) :: rest)) :=
  f_callV (As := [.int a1]) (ci := 12) (c_X12_printedWidth h) ⟨rfl, rfl⟩ rfl (ky_lm kyf_306 (by decide)) (wF_12 kyf_306) q_1794 qp_72 q_14 q_1795 rfl ⟨by decide +kernel, by decide +kernel, (show (parseMethodDescriptor yX12_printedWidth.desc).map (fun d => d.parameters.length) = some 1 by decide +kernel)⟩ F hl hR hW hS hsz hrest rfl hdg kk
set_option maxHeartbeats 4000000 in
set_option maxRecDepth 100000 in
theorem wk_X12_beginLine {a1 : Int32} {a2 : Int32} {a3 : Int32} {a4 : Int32} {μ : Mm} {out : Mm} (F : FX (fg G) b RX12 cX12_beginLine 5 p s m args meth c) (hr : meth.sig.returnType = none) (h : sh_X12_beginLine a1 a2 a3 a4 μ = some out) (hW : WH (fg G) b μ H) (hS : va_S (fb b) s.heap H locs) (hl : lv_has ls 5 [(0, .ref (b + 306)), (1, .int a1), (2, .int a2), (3, .int a3), (4, .int a4)]) : W p l e ({ frames := 0, cells := 0, slots := 0, locals := 0 } : Room) s m args below meth c H locs 0 0 (MQ below (QW (fg G) b out none) args s 0 0 (fb b)) (F0 m 0 ls []) := by
  have hx := F.1
  have hb := F.2.1
  unfold sh_X12_beginLine at h
  refine lv_aload_n hx hb dX12_beginLine_0 rfl (lv_at hl 0 rfl) ?_
  refine fl_get12 (v := .ref (b + 316)) kyf_306 F hW 27 (by decide) q_1498 rfl rfl dX12_beginLine_1 ?_
  refine lv_aload_n hx hb dX12_beginLine_4 rfl (lv_at hl 0 rfl) ?_
  refine fl_get12 (v := .int (μ.1 306 36)) kyf_306 F hW 36 (by decide) q_1507 rfl rfl dX12_beginLine_5 ?_
  refine lv_iload_n hx hb dX12_beginLine_8 rfl (lv_at hl 1 rfl) ?_
  obtain ⟨μ1, qμ1, h⟩ := ob h
  refine fm_iast kyf_316 F hW hS qμ1 dX12_beginLine_9 (fun H locs hW hS => ?_)
  refine lv_aload_n hx hb dX12_beginLine_10 rfl (lv_at hl 0 rfl) ?_
  refine fl_get12 (v := .ref (b + 317)) kyf_306 F hW 28 (by decide) q_1499 rfl rfl dX12_beginLine_11 ?_
  refine lv_aload_n hx hb dX12_beginLine_14 rfl (lv_at hl 0 rfl) ?_
  refine fl_get12 (v := .int (μ1.1 306 36)) kyf_306 F hW 36 (by decide) q_1507 rfl rfl dX12_beginLine_15 ?_
  refine lv_iload_n hx hb dX12_beginLine_18 rfl (lv_at hl 3 rfl) ?_
  obtain ⟨μ2, qμ2, h⟩ := ob h
  refine fm_iast kyf_317 F hW hS qμ2 dX12_beginLine_19 (fun H locs hW hS => ?_)
  refine lv_aload_n hx hb dX12_beginLine_20 rfl (lv_at hl 0 rfl) ?_
  refine fl_get12 (v := .ref (b + 318)) kyf_306 F hW 29 (by decide) q_1500 rfl rfl dX12_beginLine_21 ?_
  refine lv_aload_n hx hb dX12_beginLine_24 rfl (lv_at hl 0 rfl) ?_
  refine fl_get12 (v := .int (μ2.1 306 36)) kyf_306 F hW 36 (by decide) q_1507 rfl rfl dX12_beginLine_25 ?_
  refine lv_iload_n hx hb dX12_beginLine_28 rfl (lv_at hl 2 rfl) ?_
  obtain ⟨μ3, qμ3, h⟩ := ob h
  refine fm_iast kyf_318 F hW hS qμ3 dX12_beginLine_29 (fun H locs hW hS => ?_)
  refine lv_aload_n hx hb dX12_beginLine_30 rfl (lv_at hl 0 rfl) ?_
  refine fl_get12 (v := .ref (b + 319)) kyf_306 F hW 30 (by decide) q_1501 rfl rfl dX12_beginLine_31 ?_
  refine lv_aload_n hx hb dX12_beginLine_34 rfl (lv_at hl 0 rfl) ?_
  refine fl_get12 (v := .int (μ3.1 306 36)) kyf_306 F hW 36 (by decide) q_1507 rfl rfl dX12_beginLine_35 ?_
  refine lv_iconst (v := (1 : Int32)) hx hb dX12_beginLine_38 (by decide) ?_
  obtain ⟨μ4, qμ4, h⟩ := ob h
  refine fm_iast kyf_319 F hW hS qμ4 dX12_beginLine_39 (fun H locs hW hS => ?_)
  refine lv_aload_n hx hb dX12_beginLine_40 rfl (lv_at hl 0 rfl) ?_
  refine fl_get12 (v := .ref (b + 320)) kyf_306 F hW 31 (by decide) q_1502 rfl rfl dX12_beginLine_41 ?_
  refine lv_aload_n hx hb dX12_beginLine_44 rfl (lv_at hl 0 rfl) ?_
  refine fl_get12 (v := .int (μ4.1 306 36)) kyf_306 F hW 36 (by decide) q_1507 rfl rfl dX12_beginLine_45 ?_
  refine lv_iload_n hx hb dX12_beginLine_48 rfl (lv_at hl 3 rfl) ?_
  refine lv_iload hx hb dX12_beginLine_49 (lv_at hl 4 rfl) ?_
  refine lv_iadd hx hb dX12_beginLine_51 ?_
  obtain ⟨μ5, qμ5, h⟩ := ob h
  refine fm_iast kyf_320 F hW hS qμ5 dX12_beginLine_52 (fun H locs hW hS => ?_)
  refine lv_aload_n hx hb dX12_beginLine_53 rfl (lv_at hl 0 rfl) ?_
  refine fl_get12 (v := .ref (b + 321)) kyf_306 F hW 32 (by decide) q_1503 rfl rfl dX12_beginLine_54 ?_
  refine lv_aload_n hx hb dX12_beginLine_57 rfl (lv_at hl 0 rfl) ?_
  refine fl_get12 (v := .int (μ5.1 306 36)) kyf_306 F hW 36 (by decide) q_1507 rfl rfl dX12_beginLine_58 ?_
  refine lv_iconst (v := (0 : Int32)) hx hb dX12_beginLine_61 (by decide) ?_
  obtain ⟨μ6, qμ6, h⟩ := ob h
  refine fm_zast kyf_321 F hW hS qμ6 dX12_beginLine_62 (fun H locs hW hS => ?_)
  refine lv_aload_n hx hb dX12_beginLine_63 rfl (lv_at hl 0 rfl) ?_
  refine fl_get12 (v := .ref (b + 322)) kyf_306 F hW 33 (by decide) q_1504 rfl rfl dX12_beginLine_64 ?_
  refine lv_aload_n hx hb dX12_beginLine_67 rfl (lv_at hl 0 rfl) ?_
  refine fl_get12 (v := .int (μ6.1 306 36)) kyf_306 F hW 36 (by decide) q_1507 rfl rfl dX12_beginLine_68 ?_
  refine lv_iconst (v := (0 : Int32)) hx hb dX12_beginLine_71 (by decide) ?_
  obtain ⟨μ7, qμ7, h⟩ := ob h
  refine fm_iast kyf_322 F hW hS qμ7 dX12_beginLine_72 (fun H locs hW hS => ?_)
  refine lv_aload_n hx hb dX12_beginLine_73 rfl (lv_at hl 0 rfl) ?_
  refine fl_get12 (v := .ref (b + 323)) kyf_306 F hW 34 (by decide) q_1505 rfl rfl dX12_beginLine_74 ?_
  refine lv_aload_n hx hb dX12_beginLine_77 rfl (lv_at hl 0 rfl) ?_
  refine fl_get12 (v := .int (μ7.1 306 36)) kyf_306 F hW 36 (by decide) q_1507 rfl rfl dX12_beginLine_78 ?_
  refine lv_iconst (v := (-1 : Int32)) hx hb dX12_beginLine_81 (by decide) ?_
  obtain ⟨μ8, qμ8, h⟩ := ob h
  refine fm_iast kyf_323 F hW hS qμ8 dX12_beginLine_82 (fun H locs hW hS => ?_)
  refine lv_aload_n hx hb dX12_beginLine_83 rfl (lv_at hl 0 rfl) ?_
  refine lv_dup hx hb dX12_beginLine_84 rfl ?_
  refine fl_get12 (v := .int (μ8.1 306 36)) kyf_306 F hW 36 (by decide) q_1507 rfl rfl dX12_beginLine_85 ?_
  refine lv_iconst (v := (1 : Int32)) hx hb dX12_beginLine_88 (by decide) ?_
  refine lv_iadd hx hb dX12_beginLine_89 ?_
  obtain ⟨μ9, hmμ9, h⟩ := ob h
  refine fl_put12_36 kyf_306 F hW hS q_1507 hmμ9 dX12_beginLine_90 (fun H locs hW hS => ?_)
  cases h
  exact r_void F hr hW hS dX12_beginLine_93
set_option maxHeartbeats 4000000 in
set_option maxRecDepth 100000 in
theorem c_X12_beginLine {l : Launch} {G : Gt} {b : Nat} {a1 : Int32} {a2 : Int32} {a3 : Int32} {a4 : Int32} {μ : Mm} {out : Mm} (h : sh_X12_beginLine a1 a2 a3 a4 μ = some out) : Met l yX12_beginLine (wU (Cond.code yX12_beginLine cX12_beginLine 5 none)) ({ frames := 0, cells := 0, slots := 0, locals := 0 } : Room) (PcW (fg G) b μ [.ref (b + 306), .int a1, .int a2, .int a3, .int a4]) (QW (fg G) b out none) 0 0 (fb b) :=
  met_of [.ref (b + 306), .int a1, .int a2, .int a3, .int a4] (by decide) (Nat.le_of_ble_eq_true rfl) (fun F hr hW hl => wk_X12_beginLine F hr h hW va_S.rf hl)
set_option maxHeartbeats 4000000 in
set_option maxRecDepth 100000 in
theorem k_X12_beginLine {own : String} {nL : Nat} (F : FX (fg G) b own cc nL p s m args meth c) {a1 : Int32} {a2 : Int32} {a3 : Int32} {a4 : Int32} {μ : Mm} {out : Mm} (h : sh_X12_beginLine a1 a2 a3 a4 μ = some out) {index : Nat} (hl : Cond.methodLink own index yX12_beginLine ∈ TBG) (hR : 0 + 1 ≤ R.frames ∧ 8 + (5 + 11) + 0 ≤ R.locals ∧ cells ≤ R.cells ∧ slots ≤ R.slots) (hW : WH (fg G) b μ H) (hS : va_S (fb b) s.heap H locs) (hsz : ls.size = nL) (hrest : (rest.map fun v => v.category).sum ≤ 8) (hdg : decode cc pc = .ok (.invokevirtual index, 3))
    (kk : ∀ (H1 : Heap) (locs1 : List Loc), WH (fg G) b out H1 → va_S (fb b) s.heap H1 locs1 → W p l e R s m args below meth c H1 locs1 cells slots Q (F0 m (pc + 3) ls (rest))) : W p l e R s m args below meth c H locs cells slots Q (F0 m pc ls (.int a4 :: .int a3 :: .int a2 :: .int a1 :: .ref (b + 306) :: rest)) :=
  f_callV (As := [.int a1, .int a2, .int a3, .int a4]) (ci := 12) (c_X12_beginLine h) ⟨rfl, rfl⟩ rfl (ky_lm kyf_306 (by decide)) (wF_12 kyf_306) q_1850 qp_85 q_14 q_1851 rfl ⟨by decide +kernel, by decide +kernel, (show (parseMethodDescriptor yX12_beginLine.desc).map (fun d => d.parameters.length) = some 4 by decide +kernel)⟩ F hl hR hW hS hsz hrest rfl hdg kk
set_option maxHeartbeats 4000000 in
set_option maxRecDepth 100000 in
theorem wk_X12_layDots_87 {n : Nat} {a1 : Int32} {out : Mm} (F : FX (fg G) b RX12 cX12_layDots 6 p s m args meth c) (hr : meth.sig.returnType = none) : ∀ (f : Nat) (x3 : Int32) (x4 : Int32) (x5 : Int32) (μ : Mm) (H : Heap) (locs : List Loc) (ls : Array Slot), sh_X12_layDots_87 n a1 f x3 x4 x5 μ = some out → WH (fg G) b μ H → va_S (fb b) s.heap H locs → lv_has ls 6 [(0, .ref (b + 306)), (1, .int a1), (3, .int x3), (4, .int x4), (5, .int x5)] → W p l e ({ frames := 5, cells := 0, slots := 0, locals := 111 } : Room) s m args below meth c H locs 0 0 (MQ below (QW (fg G) b out none) args s 0 0 (fb b)) (F0 m 87 ls []) := by
  have hx := F.1
  have hb := F.2.1
  intro f
  induction f with
  | zero =>
    intro _ _ _ _ _ _ _ h
    rw [sh_X12_layDots_87] at h
    cases h
  | succ f ih =>
    intro x3 x4 x5 μ H locs ls h hW hS hl
    rw [sh_X12_layDots_87] at h
    have hk87 := ih
    refine lv_iload hx hb dX12_layDots_87 (lv_at hl 4 rfl) ?_
    refine lv_iconst (v := (1 : Int32)) hx hb dX12_layDots_89 (by decide) ?_
    refine lv_iadd hx hb dX12_layDots_90 ?_
    refine lv_iload hx hb dX12_layDots_91 (lv_at hl 3 rfl) ?_
    refine lv_icmp_gt (tgt := 115) hx hb dX12_layDots_93 (by decide) (fun cc => ?_) (fun cc => ?_)
    · replace h := (if_pos cc).symm.trans h
      cases h
      exact r_void F hr hW hS dX12_layDots_115
    · replace h := (if_neg cc).symm.trans h
      refine lv_aload_n hx hb dX12_layDots_96 rfl (lv_at hl 0 rfl) ?_
      refine fl_get12 (v := .ref (b + 322)) kyf_306 F hW 33 (by decide) q_1504 rfl rfl dX12_layDots_97 ?_
      refine lv_iload_n hx hb dX12_layDots_100 rfl (lv_at hl 1 rfl) ?_
      refine lv_dup2_11 hx hb dX12_layDots_101 rfl rfl ?_
      obtain ⟨v17, qv17, h⟩ := ob h
      refine fm_iald kyf_322 F hW qv17 dX12_layDots_102 ?_
      refine lv_iconst (v := (1 : Int32)) hx hb dX12_layDots_103 (by decide) ?_
      refine lv_iadd hx hb dX12_layDots_104 ?_
      obtain ⟨μ18, qμ18, h⟩ := ob h
      refine fm_iast kyf_322 F hW hS qμ18 dX12_layDots_105 (fun H locs hW hS => ?_)
      refine lv_iload hx hb dX12_layDots_106 (lv_at hl 4 rfl) ?_
      refine lv_iload_n hx hb dX12_layDots_108 rfl (lv_at hl 2 rfl) ?_
      refine lv_iadd hx hb dX12_layDots_109 ?_
      obtain ⟨v19, ev19⟩ : ∃ y, y = (x5 + x3) := ⟨_, rfl⟩
      have h := nm_at ev19 h
      rw [← ev19]
      refine lv_istore (lv' := [(5, .int v19), (0, .ref (b + 306)), (1, .int a1), (3, .int x3), (4, .int x4)]) hx hb dX12_layDots_110 hl (by decide) rfl (fun ls hl => ?_)
      refine lv_goto (tgt := 87) hx hb dX12_layDots_112 (by decide) ?_
      exact hk87 _ _ _ _ _ _ _ h hW hS (lv_sub hl [1, 2, 3, 4, 0] rfl)
set_option maxHeartbeats 4000000 in
set_option maxRecDepth 100000 in
theorem wk_X12_layDots {n : Nat} {a1 : Int32} {μ : Mm} {out : Mm} (F : FX (fg G) b RX12 cX12_layDots 6 p s m args meth c) (hr : meth.sig.returnType = none) (h : sh_X12_layDots n a1 μ = some out) (hW : WH (fg G) b μ H) (hS : va_S (fb b) s.heap H locs) (hl : lv_has ls 6 [(0, .ref (b + 306)), (1, .int a1)]) : W p l e ({ frames := 5, cells := 0, slots := 0, locals := 111 } : Room) s m args below meth c H locs 0 0 (MQ below (QW (fg G) b out none) args s 0 0 (fb b)) (F0 m 0 ls []) := by
  have hx := F.1
  have hb := F.2.1
  unfold sh_X12_layDots at h
  refine lv_aload_n hx hb dX12_layDots_0 rfl (lv_at hl 0 rfl) ?_
  refine fl_get12 (v := .ref (b + 316)) kyf_306 F hW 27 (by decide) q_1498 rfl rfl dX12_layDots_1 ?_
  refine lv_iload_n hx hb dX12_layDots_4 rfl (lv_at hl 1 rfl) ?_
  obtain ⟨v1, qv1, h⟩ := ob h
  refine fm_iald kyf_316 F hW qv1 dX12_layDots_5 ?_
  refine lv_istore_n (lv' := [(2, .int v1), (0, .ref (b + 306)), (1, .int a1)]) hx hb dX12_layDots_6 rfl hl (by decide) rfl (fun ls hl => ?_)
  refine lv_aload_n hx hb dX12_layDots_7 rfl (lv_at hl 1 rfl) ?_
  have pf2 := nd_ky hW.2.1
  refine fl_get12 (v := .ref (b + (μ.2.2 0))) kyf_306 F hW 3 (by decide) q_1474 rfl rfl dX12_layDots_8 ?_
  refine lv_bipush (v := (7 : Int32)) hx hb dX12_layDots_11 (by decide) ?_
  obtain ⟨v3, qv3, h⟩ := ob h
  refine fm_iald pf2 F hW qv3 dX12_layDots_13 ?_
  refine lv_istore_n (lv' := [(3, .int v3), (2, .int v1), (0, .ref (b + 306)), (1, .int a1)]) hx hb dX12_layDots_14 rfl hl (by decide) rfl (fun ls hl => ?_)
  refine lv_aload_n hx hb dX12_layDots_15 rfl (lv_at hl 2 rfl) ?_
  have pf4 := nd_ky hW.2.1
  refine fl_get12 (v := .ref (b + (μ.2.2 0))) kyf_306 F hW 3 (by decide) q_1474 rfl rfl dX12_layDots_16 ?_
  refine lv_iconst (v := (0 : Int32)) hx hb dX12_layDots_19 (by decide) ?_
  obtain ⟨v5, qv5, h⟩ := ob h
  refine fm_iald pf4 F hW qv5 dX12_layDots_20 ?_
  refine lv_aload_n hx hb dX12_layDots_21 rfl (lv_at hl 2 rfl) ?_
  refine lv_iload_n hx hb dX12_layDots_22 rfl (lv_at hl 1 rfl) ?_
  obtain ⟨r6, qr6, h⟩ := ob h
  refine k_X12_printedWidth F qr6 q_1792 ⟨Nat.le_of_ble_eq_true rfl, Nat.le_of_ble_eq_true rfl, Nat.le_of_ble_eq_true rfl, Nat.le_of_ble_eq_true rfl⟩ hW hS hl.1 (Nat.le_of_ble_eq_true rfl) dX12_layDots_23 (fun H locs hW hS => ?_)
  refine lv_isub hx hb dX12_layDots_26 ?_
  refine lv_aload_n hx hb dX12_layDots_27 rfl (lv_at hl 2 rfl) ?_
  have pf7 := nd_ky hW.2.1
  refine fl_get12 (v := .ref (b + (r6.2.2.2 0))) kyf_306 F hW 3 (by decide) q_1474 rfl rfl dX12_layDots_28 ?_
  refine lv_iconst (v := (5 : Int32)) hx hb dX12_layDots_31 (by decide) ?_
  obtain ⟨v8, qv8, h⟩ := ob h
  refine fm_iald pf7 F hW qv8 dX12_layDots_32 ?_
  refine lv_isub hx hb dX12_layDots_33 ?_
  obtain ⟨v9, ev9⟩ : ∃ y, y = ((v5 - r6.1) - v8) := ⟨_, rfl⟩
  have h := nm_at ev9 h
  rw [← ev9]
  refine lv_istore (lv' := [(4, .int v9), (3, .int v3), (2, .int v1), (0, .ref (b + 306)), (1, .int a1)]) hx hb dX12_layDots_34 hl (by decide) rfl (fun ls hl => ?_)
  refine lv_aload_n hx hb dX12_layDots_36 rfl (lv_at hl 3 rfl) ?_
  refine fl_get12 (v := .ref (b + 320)) kyf_306 F hW 31 (by decide) q_1502 rfl rfl dX12_layDots_37 ?_
  refine lv_iload_n hx hb dX12_layDots_40 rfl (lv_at hl 4 rfl) ?_
  obtain ⟨v10, qv10, h⟩ := ob h
  refine fm_iald kyf_320 F hW qv10 dX12_layDots_41 ?_
  refine lv_aload_n hx hb dX12_layDots_42 rfl (lv_at hl 3 rfl) ?_
  have pf11 := nd_ky hW.2.1
  refine fl_get12 (v := .ref (b + (r6.2.2.2 0))) kyf_306 F hW 3 (by decide) q_1474 rfl rfl dX12_layDots_43 ?_
  refine lv_iconst (v := (5 : Int32)) hx hb dX12_layDots_46 (by decide) ?_
  obtain ⟨v12, qv12, h⟩ := ob h
  refine fm_iald pf11 F hW qv12 dX12_layDots_47 ?_
  refine lv_iadd hx hb dX12_layDots_48 ?_
  refine lv_iload_n hx hb dX12_layDots_49 rfl (lv_at hl 1 rfl) ?_
  refine lv_iadd hx hb dX12_layDots_50 ?_
  refine lv_iconst (v := (1 : Int32)) hx hb dX12_layDots_51 (by decide) ?_
  refine lv_isub hx hb dX12_layDots_52 ?_
  refine lv_iload_n hx hb dX12_layDots_53 rfl (lv_at hl 1 rfl) ?_
  obtain ⟨v13, qv13, h⟩ := ob h
  obtain ⟨zv13, qv13⟩ := dv_some qv13
  refine lv_idiv hx hb dX12_layDots_54 zv13 ?_
  rw [qv13]
  refine lv_iload_n hx hb dX12_layDots_55 rfl (lv_at hl 1 rfl) ?_
  refine lv_imul hx hb dX12_layDots_56 ?_
  obtain ⟨v14, ev14⟩ : ∃ y, y = (v13 * v3) := ⟨_, rfl⟩
  have h := nm_at ev14 h
  rw [← ev14]
  refine lv_istore (lv' := [(5, .int v14), (4, .int v9), (3, .int v3), (2, .int v1), (0, .ref (b + 306)), (1, .int a1)]) hx hb dX12_layDots_57 hl (by decide) rfl (fun ls hl => ?_)
  refine lv_aload_n hx hb dX12_layDots_59 rfl (lv_at hl 4 rfl) ?_
  refine fl_get12 (v := .ref (b + 322)) kyf_306 F hW 33 (by decide) q_1504 rfl rfl dX12_layDots_60 ?_
  refine lv_iload_n hx hb dX12_layDots_63 rfl (lv_at hl 5 rfl) ?_
  refine lv_iconst (v := (0 : Int32)) hx hb dX12_layDots_64 (by decide) ?_
  obtain ⟨μ15, qμ15, h⟩ := ob h
  refine fm_iast kyf_322 F hW hS qμ15 dX12_layDots_65 (fun H locs hW hS => ?_)
  refine lv_aload_n hx hb dX12_layDots_66 rfl (lv_at hl 4 rfl) ?_
  refine fl_get12 (v := .ref (b + 323)) kyf_306 F hW 34 (by decide) q_1505 rfl rfl dX12_layDots_67 ?_
  refine lv_iload_n hx hb dX12_layDots_70 rfl (lv_at hl 5 rfl) ?_
  refine lv_iload hx hb dX12_layDots_71 (lv_at hl 0 rfl) ?_
  refine lv_iconst (v := (1 : Int32)) hx hb dX12_layDots_73 (by decide) ?_
  refine lv_iadd hx hb dX12_layDots_74 ?_
  refine lv_iload hx hb dX12_layDots_75 (lv_at hl 1 rfl) ?_
  refine lv_icmp_gt (tgt := 85) hx hb dX12_layDots_77 (by decide) (fun cc => ?_) (fun cc => ?_)
  · replace h := (if_pos cc).symm.trans h
    refine lv_iconst (v := (-1 : Int32)) hx hb dX12_layDots_85 (by decide) ?_
    obtain ⟨μ16, qμ16, h⟩ := ob h
    refine fm_iast kyf_323 F hW hS qμ16 dX12_layDots_86 (fun H locs hW hS => ?_)
    exact wk_X12_layDots_87 F hr n _ _ _ _ _ _ _ h hW hS (lv_sub hl [4, 5, 2, 1, 0] rfl)
  · replace h := (if_neg cc).symm.trans h
    refine lv_iload hx hb dX12_layDots_80 (lv_at hl 0 rfl) ?_
    refine lv_goto (tgt := 86) hx hb dX12_layDots_82 (by decide) ?_
    obtain ⟨μ20, qμ20, h⟩ := ob h
    refine fm_iast kyf_323 F hW hS qμ20 dX12_layDots_86 (fun H locs hW hS => ?_)
    exact wk_X12_layDots_87 F hr n _ _ _ _ _ _ _ h hW hS (lv_sub hl [4, 5, 2, 1, 0] rfl)
set_option maxHeartbeats 4000000 in
set_option maxRecDepth 100000 in
theorem c_X12_layDots {l : Launch} {G : Gt} {b : Nat} {n : Nat} {a1 : Int32} {μ : Mm} {out : Mm} (h : sh_X12_layDots n a1 μ = some out) : Met l yX12_layDots (wU (Cond.code yX12_layDots cX12_layDots 6 none)) ({ frames := 5, cells := 0, slots := 0, locals := 111 } : Room) (PcW (fg G) b μ [.ref (b + 306), .int a1]) (QW (fg G) b out none) 0 0 (fb b) :=
  met_of [.ref (b + 306), .int a1] (by decide) (Nat.le_of_ble_eq_true rfl) (fun F hr hW hl => wk_X12_layDots F hr h hW va_S.rf hl)
set_option maxHeartbeats 4000000 in
set_option maxRecDepth 100000 in
theorem k_X12_layDots {own : String} {nL : Nat} (F : FX (fg G) b own cc nL p s m args meth c) {n : Nat} {a1 : Int32} {μ : Mm} {out : Mm} (h : sh_X12_layDots n a1 μ = some out) {index : Nat} (hl : Cond.methodLink own index yX12_layDots ∈ TBG) (hR : 5 + 1 ≤ R.frames ∧ 8 + (6 + 11) + 111 ≤ R.locals ∧ cells ≤ R.cells ∧ slots ≤ R.slots) (hW : WH (fg G) b μ H) (hS : va_S (fb b) s.heap H locs) (hsz : ls.size = nL) (hrest : (rest.map fun v => v.category).sum ≤ 8) (hdg : decode cc pc = .ok (.invokevirtual index, 3))
    (kk : ∀ (H1 : Heap) (locs1 : List Loc), WH (fg G) b out H1 → va_S (fb b) s.heap H1 locs1 → W p l e R s m args below meth c H1 locs1 cells slots Q (F0 m (pc + 3) ls (rest))) : W p l e R s m args below meth c H locs cells slots Q (F0 m pc ls (.int a1 :: .ref (b + 306) :: rest)) :=
  f_callV (As := [.int a1]) (ci := 12) (c_X12_layDots h) ⟨rfl, rfl⟩ rfl (ky_lm kyf_306 (by decide)) (wF_12 kyf_306) q_1854 qp_86 q_14 q_1855 rfl ⟨by decide +kernel, by decide +kernel, (show (parseMethodDescriptor yX12_layDots.desc).map (fun d => d.parameters.length) = some 1 by decide +kernel)⟩ F hl hR hW hS hsz hrest rfl hdg kk
set_option maxHeartbeats 4000000 in
set_option maxRecDepth 100000 in
theorem wk_X12_layEntry_257 {n : Nat} {a1 : Int32} {μ : Mm} {out : Mm} (F : FX (fg G) b RX12 cX12_layEntry 6 p s m args meth c) (hr : meth.sig.returnType = none) (h : sh_X12_layEntry_257 n a1 μ = some out) (hW : WH (fg G) b μ H) (hS : va_S (fb b) s.heap H locs) (hl : lv_has ls 6 [(0, .ref (b + 306))]) : W p l e ({ frames := 6, cells := 0, slots := 0, locals := 136 } : Room) s m args below meth c H locs 0 0 (MQ below (QW (fg G) b out none) args s 0 0 (fb b)) (F0 m 257 ls []) := by
  have hx := F.1
  have hb := F.2.1
  unfold sh_X12_layEntry_257 at h
  refine lv_aload_n hx hb dX12_layEntry_257 rfl (lv_at hl 0 rfl) ?_
  refine fl_get12 (v := .ref (b + 321)) kyf_306 F hW 32 (by decide) q_1503 rfl rfl dX12_layEntry_258 ?_
  refine lv_aload_n hx hb dX12_layEntry_261 rfl (lv_at hl 0 rfl) ?_
  refine fl_get12 (v := .int (μ.1 306 36)) kyf_306 F hW 36 (by decide) q_1507 rfl rfl dX12_layEntry_262 ?_
  refine lv_iconst (v := (1 : Int32)) hx hb dX12_layEntry_265 (by decide) ?_
  refine lv_isub hx hb dX12_layEntry_266 ?_
  refine lv_iconst (v := (1 : Int32)) hx hb dX12_layEntry_267 (by decide) ?_
  obtain ⟨μ12, qμ12, h⟩ := ob h
  refine fm_zast kyf_321 F hW hS qμ12 dX12_layEntry_268 (fun H locs hW hS => ?_)
  cases h
  exact r_void F hr hW hS dX12_layEntry_269
set_option maxHeartbeats 4000000 in
set_option maxRecDepth 100000 in
theorem wk_X12_layEntry_41 {n : Nat} {a1 : Int32} {out : Mm} (F : FX (fg G) b RX12 cX12_layEntry 6 p s m args meth c) (hr : meth.sig.returnType = none) : ∀ (f : Nat) (x2 : Int32) (x3 : Int32) (μ : Mm) (H : Heap) (locs : List Loc) (ls : Array Slot), sh_X12_layEntry_41 n a1 f x2 x3 μ = some out → WH (fg G) b μ H → va_S (fb b) s.heap H locs → lv_has ls 6 [(0, .ref (b + 306)), (1, .int a1), (2, .int x2), (3, .int x3)] → W p l e ({ frames := 6, cells := 0, slots := 0, locals := 136 } : Room) s m args below meth c H locs 0 0 (MQ below (QW (fg G) b out none) args s 0 0 (fb b)) (F0 m 41 ls []) := by
  have hx := F.1
  have hb := F.2.1
  intro f
  induction f with
  | zero =>
    intro _ _ _ _ _ _ h
    rw [sh_X12_layEntry_41] at h
    cases h
  | succ f ih =>
    intro x2 x3 μ H locs ls h hW hS hl
    rw [sh_X12_layEntry_41] at h
    have hk41 := ih
    refine lv_iload_n hx hb dX12_layEntry_41 rfl (lv_at hl 3 rfl) ?_
    refine lv_aload_n hx hb dX12_layEntry_42 rfl (lv_at hl 0 rfl) ?_
    refine lv_iload_n hx hb dX12_layEntry_43 rfl (lv_at hl 1 rfl) ?_
    refine lv_iconst (v := (3 : Int32)) hx hb dX12_layEntry_44 (by decide) ?_
    obtain ⟨r8, qr8, h⟩ := ob h
    refine k_X12_of F qr8 q_1735 ⟨Nat.le_of_ble_eq_true rfl, Nat.le_of_ble_eq_true rfl, Nat.le_of_ble_eq_true rfl, Nat.le_of_ble_eq_true rfl⟩ hW hS hl.1 (Nat.le_of_ble_eq_true rfl) dX12_layEntry_45 (fun H locs hW hS => ?_)
    refine lv_icmp_ge (tgt := 136) hx hb dX12_layEntry_48 (by decide) (fun cc => ?_) (fun cc => ?_)
    · replace h := (if_pos cc).symm.trans h
      refine lv_aload_n hx hb dX12_layEntry_136 rfl (lv_at hl 0 rfl) ?_
      refine fl_get12 (v := .int (μ.1 306 36)) kyf_306 F hW 36 (by decide) q_1507 rfl rfl dX12_layEntry_137 ?_
      refine lv_iconst (v := (1 : Int32)) hx hb dX12_layEntry_140 (by decide) ?_
      refine lv_isub hx hb dX12_layEntry_141 ?_
      obtain ⟨v9, ev9⟩ : ∃ y, y = ((μ.1 306 36) - (1 : Int32)) := ⟨_, rfl⟩
      have h := nm_at ev9 h
      rw [← ev9]
      refine lv_istore_n (lv' := [(3, .int v9), (0, .ref (b + 306)), (1, .int a1), (2, .int x2)]) hx hb dX12_layEntry_142 rfl hl (by decide) rfl (fun ls hl => ?_)
      refine lv_aload_n hx hb dX12_layEntry_143 rfl (lv_at hl 1 rfl) ?_
      refine lv_iload_n hx hb dX12_layEntry_144 rfl (lv_at hl 0 rfl) ?_
      obtain ⟨r10, qr10, h⟩ := ob h
      refine k_X12_layDots F qr10 q_1852 ⟨Nat.le_of_ble_eq_true rfl, Nat.le_of_ble_eq_true rfl, Nat.le_of_ble_eq_true rfl, Nat.le_of_ble_eq_true rfl⟩ hW hS hl.1 (Nat.le_of_ble_eq_true rfl) dX12_layEntry_145 (fun H locs hW hS => ?_)
      refine lv_aload_n hx hb dX12_layEntry_148 rfl (lv_at hl 1 rfl) ?_
      refine fl_get12 (v := .ref (b + 319)) kyf_306 F hW 30 (by decide) q_1501 rfl rfl dX12_layEntry_149 ?_
      refine lv_iload_n hx hb dX12_layEntry_152 rfl (lv_at hl 0 rfl) ?_
      obtain ⟨v11, qv11, h⟩ := ob h
      refine fm_iald kyf_319 F hW qv11 dX12_layEntry_153 ?_
      refine lv_iconst (v := (1 : Int32)) hx hb dX12_layEntry_154 (by decide) ?_
      refine lv_icmp_le (tgt := 257) hx hb dX12_layEntry_155 (by decide) (fun cc => ?_) (fun cc => ?_)
      · replace h := (if_pos cc).symm.trans h
        exact wk_X12_layEntry_257 F hr h hW hS (lv_sub hl [1] rfl)
      · replace h := (if_neg cc).symm.trans h
        refine lv_aload_n hx hb dX12_layEntry_158 rfl (lv_at hl 1 rfl) ?_
        refine fl_get12 (v := .ref (b + 322)) kyf_306 F hW 33 (by decide) q_1504 rfl rfl dX12_layEntry_159 ?_
        refine lv_iload_n hx hb dX12_layEntry_162 rfl (lv_at hl 0 rfl) ?_
        obtain ⟨v13, qv13, h⟩ := ob h
        refine fm_iald kyf_322 F hW qv13 dX12_layEntry_163 ?_
        refine lv_aload_n hx hb dX12_layEntry_164 rfl (lv_at hl 1 rfl) ?_
        have pf14 := nd_ky hW.2.1
        refine fl_get12 (v := .ref (b + (r10.2.2 0))) kyf_306 F hW 3 (by decide) q_1474 rfl rfl dX12_layEntry_165 ?_
        refine lv_bipush (v := (6 : Int32)) hx hb dX12_layEntry_168 (by decide) ?_
        obtain ⟨v15, qv15, h⟩ := ob h
        refine fm_iald pf14 F hW qv15 dX12_layEntry_170 ?_
        refine lv_icmp_ge (tgt := 257) hx hb dX12_layEntry_171 (by decide) (fun cc => ?_) (fun cc => ?_)
        · replace h := (if_pos cc).symm.trans h
          exact wk_X12_layEntry_257 F hr h hW hS (lv_sub hl [1] rfl)
        · replace h := (if_neg cc).symm.trans h
          refine lv_aload_n hx hb dX12_layEntry_174 rfl (lv_at hl 1 rfl) ?_
          refine lv_iload_n hx hb dX12_layEntry_175 rfl (lv_at hl 2 rfl) ?_
          refine lv_iconst (v := (3 : Int32)) hx hb dX12_layEntry_176 (by decide) ?_
          obtain ⟨r16, qr16, h⟩ := ob h
          refine k_X12_of F qr16 q_1735 ⟨Nat.le_of_ble_eq_true rfl, Nat.le_of_ble_eq_true rfl, Nat.le_of_ble_eq_true rfl, Nat.le_of_ble_eq_true rfl⟩ hW hS hl.1 (Nat.le_of_ble_eq_true rfl) dX12_layEntry_177 (fun H locs hW hS => ?_)
          refine lv_iconst (v := (1 : Int32)) hx hb dX12_layEntry_180 (by decide) ?_
          refine lv_isub hx hb dX12_layEntry_181 ?_
          obtain ⟨v17, ev17⟩ : ∃ y, y = (r16 - (1 : Int32)) := ⟨_, rfl⟩
          have h := nm_at ev17 h
          rw [← ev17]
          refine lv_istore (lv' := [(4, .int v17), (3, .int v9), (0, .ref (b + 306)), (1, .int a1), (2, .int x2)]) hx hb dX12_layEntry_182 hl (by decide) rfl (fun ls hl => ?_)
          refine lv_aload_n hx hb dX12_layEntry_184 rfl (lv_at hl 2 rfl) ?_
          refine lv_iload_n hx hb dX12_layEntry_185 rfl (lv_at hl 3 rfl) ?_
          refine lv_iload hx hb dX12_layEntry_186 (lv_at hl 0 rfl) ?_
          obtain ⟨r18, qr18, h⟩ := ob h
          refine k_X12_tokenWidth F qr18 q_1828 ⟨Nat.le_of_ble_eq_true rfl, Nat.le_of_ble_eq_true rfl, Nat.le_of_ble_eq_true rfl, Nat.le_of_ble_eq_true rfl⟩ hW hS hl.1 (Nat.le_of_ble_eq_true rfl) dX12_layEntry_188 (fun H locs hW hS => ?_)
          obtain ⟨v19, ev19⟩ : ∃ y, y = r18.1 := ⟨_, rfl⟩
          have h := nm_at ev19 h
          rw [← ev19]
          refine lv_istore (lv' := [(5, .int v19), (4, .int v17), (3, .int v9), (0, .ref (b + 306)), (1, .int a1), (2, .int x2)]) hx hb dX12_layEntry_191 hl (by decide) rfl (fun ls hl => ?_)
          refine lv_aload_n hx hb dX12_layEntry_193 rfl (lv_at hl 3 rfl) ?_
          refine fl_get12 (v := .ref (b + 319)) kyf_306 F hW 30 (by decide) q_1501 rfl rfl dX12_layEntry_194 ?_
          refine lv_iload_n hx hb dX12_layEntry_197 rfl (lv_at hl 2 rfl) ?_
          refine lv_dup2_11 hx hb dX12_layEntry_198 rfl rfl ?_
          obtain ⟨v20, qv20, h⟩ := ob h
          refine fm_iald kyf_319 F hW qv20 dX12_layEntry_199 ?_
          refine lv_iconst (v := (1 : Int32)) hx hb dX12_layEntry_200 (by decide) ?_
          refine lv_isub hx hb dX12_layEntry_201 ?_
          obtain ⟨μ21, qμ21, h⟩ := ob h
          refine fm_iast kyf_319 F hW hS qμ21 dX12_layEntry_202 (fun H locs hW hS => ?_)
          refine lv_aload_n hx hb dX12_layEntry_203 rfl (lv_at hl 3 rfl) ?_
          refine fl_get12 (v := .ref (b + 320)) kyf_306 F hW 31 (by decide) q_1502 rfl rfl dX12_layEntry_204 ?_
          refine lv_iload_n hx hb dX12_layEntry_207 rfl (lv_at hl 2 rfl) ?_
          refine lv_dup2_11 hx hb dX12_layEntry_208 rfl rfl ?_
          obtain ⟨v22, qv22, h⟩ := ob h
          refine fm_iald kyf_320 F hW qv22 dX12_layEntry_209 ?_
          refine lv_iconst (v := (1 : Int32)) hx hb dX12_layEntry_210 (by decide) ?_
          refine lv_iload hx hb dX12_layEntry_211 (lv_at hl 0 rfl) ?_
          refine lv_iadd hx hb dX12_layEntry_213 ?_
          refine lv_isub hx hb dX12_layEntry_214 ?_
          obtain ⟨μ23, qμ23, h⟩ := ob h
          refine fm_iast kyf_320 F hW hS qμ23 dX12_layEntry_215 (fun H locs hW hS => ?_)
          refine lv_aload_n hx hb dX12_layEntry_216 rfl (lv_at hl 3 rfl) ?_
          refine fl_get12 (v := .ref (b + 322)) kyf_306 F hW 33 (by decide) q_1504 rfl rfl dX12_layEntry_217 ?_
          refine lv_iload_n hx hb dX12_layEntry_220 rfl (lv_at hl 2 rfl) ?_
          refine lv_iconst (v := (0 : Int32)) hx hb dX12_layEntry_221 (by decide) ?_
          obtain ⟨μ24, qμ24, h⟩ := ob h
          refine fm_iast kyf_322 F hW hS qμ24 dX12_layEntry_222 (fun H locs hW hS => ?_)
          refine lv_aload_n hx hb dX12_layEntry_223 rfl (lv_at hl 3 rfl) ?_
          refine fl_get12 (v := .ref (b + 323)) kyf_306 F hW 34 (by decide) q_1505 rfl rfl dX12_layEntry_224 ?_
          refine lv_iload_n hx hb dX12_layEntry_227 rfl (lv_at hl 2 rfl) ?_
          refine lv_iconst (v := (-1 : Int32)) hx hb dX12_layEntry_228 (by decide) ?_
          obtain ⟨μ25, qμ25, h⟩ := ob h
          refine fm_iast kyf_323 F hW hS qμ25 dX12_layEntry_229 (fun H locs hW hS => ?_)
          refine lv_aload_n hx hb dX12_layEntry_230 rfl (lv_at hl 3 rfl) ?_
          refine lv_iload_n hx hb dX12_layEntry_231 rfl (lv_at hl 4 rfl) ?_
          refine lv_iload hx hb dX12_layEntry_232 (lv_at hl 1 rfl) ?_
          refine lv_iload_n hx hb dX12_layEntry_234 rfl (lv_at hl 5 rfl) ?_
          refine lv_aload_n hx hb dX12_layEntry_235 rfl (lv_at hl 3 rfl) ?_
          have pf26 := nd_ky hW.2.1
          refine fl_get12 (v := .ref (b + (μ25.2.2 0))) kyf_306 F hW 3 (by decide) q_1474 rfl rfl dX12_layEntry_236 ?_
          refine lv_iconst (v := (4 : Int32)) hx hb dX12_layEntry_239 (by decide) ?_
          obtain ⟨v27, qv27, h⟩ := ob h
          refine fm_iald pf26 F hW qv27 dX12_layEntry_240 ?_
          refine lv_iadd hx hb dX12_layEntry_241 ?_
          refine lv_iload hx hb dX12_layEntry_242 (lv_at hl 0 rfl) ?_
          obtain ⟨r28, qr28, h⟩ := ob h
          refine k_X12_beginLine F qr28 q_1848 ⟨Nat.le_of_ble_eq_true rfl, Nat.le_of_ble_eq_true rfl, Nat.le_of_ble_eq_true rfl, Nat.le_of_ble_eq_true rfl⟩ hW hS hl.1 (Nat.le_of_ble_eq_true rfl) dX12_layEntry_244 (fun H locs hW hS => ?_)
          refine lv_aload_n hx hb dX12_layEntry_247 rfl (lv_at hl 3 rfl) ?_
          refine lv_aload_n hx hb dX12_layEntry_248 rfl (lv_at hl 3 rfl) ?_
          refine fl_get12 (v := .int (r28.1 306 36)) kyf_306 F hW 36 (by decide) q_1507 rfl rfl dX12_layEntry_249 ?_
          refine lv_iconst (v := (1 : Int32)) hx hb dX12_layEntry_252 (by decide) ?_
          refine lv_isub hx hb dX12_layEntry_253 ?_
          obtain ⟨r29, qr29, h⟩ := ob h
          refine k_X12_layDots F qr29 q_1852 ⟨Nat.le_of_ble_eq_true rfl, Nat.le_of_ble_eq_true rfl, Nat.le_of_ble_eq_true rfl, Nat.le_of_ble_eq_true rfl⟩ hW hS hl.1 (Nat.le_of_ble_eq_true rfl) dX12_layEntry_254 (fun H locs hW hS => ?_)
          exact wk_X12_layEntry_257 F hr h hW hS (lv_sub hl [3] rfl)
    · replace h := (if_neg cc).symm.trans h
      refine lv_aload_n hx hb dX12_layEntry_51 rfl (lv_at hl 0 rfl) ?_
      refine lv_iload_n hx hb dX12_layEntry_52 rfl (lv_at hl 1 rfl) ?_
      refine lv_iload_n hx hb dX12_layEntry_53 rfl (lv_at hl 3 rfl) ?_
      obtain ⟨r30, qr30, h⟩ := ob h
      refine k_X12_tokenWidth F qr30 q_1828 ⟨Nat.le_of_ble_eq_true rfl, Nat.le_of_ble_eq_true rfl, Nat.le_of_ble_eq_true rfl, Nat.le_of_ble_eq_true rfl⟩ hW hS hl.1 (Nat.le_of_ble_eq_true rfl) dX12_layEntry_54 (fun H locs hW hS => ?_)
      obtain ⟨v31, ev31⟩ : ∃ y, y = r30.1 := ⟨_, rfl⟩
      have h := nm_at ev31 h
      rw [← ev31]
      refine lv_istore (lv' := [(4, .int v31), (0, .ref (b + 306)), (1, .int a1), (2, .int x2), (3, .int x3)]) hx hb dX12_layEntry_57 hl (by decide) rfl (fun ls hl => ?_)
      refine lv_aload_n hx hb dX12_layEntry_59 rfl (lv_at hl 1 rfl) ?_
      refine fl_get12 (v := .int (r30.2.1 306 36)) kyf_306 F hW 36 (by decide) q_1507 rfl rfl dX12_layEntry_60 ?_
      refine lv_iconst (v := (1 : Int32)) hx hb dX12_layEntry_63 (by decide) ?_
      refine lv_isub hx hb dX12_layEntry_64 ?_
      obtain ⟨v32, ev32⟩ : ∃ y, y = ((r30.2.1 306 36) - (1 : Int32)) := ⟨_, rfl⟩
      have h := nm_at ev32 h
      rw [← ev32]
      refine lv_istore (lv' := [(5, .int v32), (4, .int v31), (0, .ref (b + 306)), (1, .int a1), (2, .int x2), (3, .int x3)]) hx hb dX12_layEntry_65 hl (by decide) rfl (fun ls hl => ?_)
      refine lv_aload_n hx hb dX12_layEntry_67 rfl (lv_at hl 2 rfl) ?_
      refine fl_get12 (v := .ref (b + 320)) kyf_306 F hW 31 (by decide) q_1502 rfl rfl dX12_layEntry_68 ?_
      refine lv_iload hx hb dX12_layEntry_71 (lv_at hl 0 rfl) ?_
      obtain ⟨v33, qv33, h⟩ := ob h
      refine fm_iald kyf_320 F hW qv33 dX12_layEntry_73 ?_
      refine lv_iconst (v := (1 : Int32)) hx hb dX12_layEntry_74 (by decide) ?_
      refine lv_iadd hx hb dX12_layEntry_75 ?_
      refine lv_iload hx hb dX12_layEntry_76 (lv_at hl 1 rfl) ?_
      refine lv_iadd hx hb dX12_layEntry_78 ?_
      refine lv_aload_n hx hb dX12_layEntry_79 rfl (lv_at hl 2 rfl) ?_
      refine fl_get12 (v := .int (r30.2.1 306 38)) kyf_306 F hW 38 (by decide) q_1509 rfl rfl dX12_layEntry_80 ?_
      refine lv_icmp_gt (tgt := 114) hx hb dX12_layEntry_83 (by decide) (fun cc => ?_) (fun cc => ?_)
      · replace h := (if_pos cc).symm.trans h
        refine lv_aload_n hx hb dX12_layEntry_114 rfl (lv_at hl 2 rfl) ?_
        refine lv_iload_n hx hb dX12_layEntry_115 rfl (lv_at hl 3 rfl) ?_
        refine lv_iload_n hx hb dX12_layEntry_116 rfl (lv_at hl 5 rfl) ?_
        refine lv_iload_n hx hb dX12_layEntry_117 rfl (lv_at hl 4 rfl) ?_
        refine lv_aload_n hx hb dX12_layEntry_118 rfl (lv_at hl 2 rfl) ?_
        have pf34 := nd_ky hW.2.1
        refine fl_get12 (v := .ref (b + (r30.2.2.2 0))) kyf_306 F hW 3 (by decide) q_1474 rfl rfl dX12_layEntry_119 ?_
        refine lv_iconst (v := (4 : Int32)) hx hb dX12_layEntry_122 (by decide) ?_
        obtain ⟨v35, qv35, h⟩ := ob h
        refine fm_iald pf34 F hW qv35 dX12_layEntry_123 ?_
        refine lv_iadd hx hb dX12_layEntry_124 ?_
        refine lv_iload hx hb dX12_layEntry_125 (lv_at hl 1 rfl) ?_
        obtain ⟨r36, qr36, h⟩ := ob h
        refine k_X12_beginLine F qr36 q_1848 ⟨Nat.le_of_ble_eq_true rfl, Nat.le_of_ble_eq_true rfl, Nat.le_of_ble_eq_true rfl, Nat.le_of_ble_eq_true rfl⟩ hW hS hl.1 (Nat.le_of_ble_eq_true rfl) dX12_layEntry_127 (fun H locs hW hS => ?_)
        refine lv_iinc (v := (x3 + (1 : Int32))) (lv' := [(3, .int (x3 + (1 : Int32))), (5, .int v32), (4, .int v31), (0, .ref (b + 306)), (1, .int a1), (2, .int x2)]) hx hb dX12_layEntry_130 hl (k := 5) rfl rfl (by decide) rfl (fun ls hl => ?_)
        refine lv_goto (tgt := 41) hx hb dX12_layEntry_133 (by decide) ?_
        exact hk41 _ _ _ _ _ _ h hW hS (lv_sub hl [3, 4, 5, 0] rfl)
      · replace h := (if_neg cc).symm.trans h
        refine lv_aload_n hx hb dX12_layEntry_86 rfl (lv_at hl 2 rfl) ?_
        refine fl_get12 (v := .ref (b + 319)) kyf_306 F hW 30 (by decide) q_1501 rfl rfl dX12_layEntry_87 ?_
        refine lv_iload hx hb dX12_layEntry_90 (lv_at hl 0 rfl) ?_
        refine lv_dup2_11 hx hb dX12_layEntry_92 rfl rfl ?_
        obtain ⟨v37, qv37, h⟩ := ob h
        refine fm_iald kyf_319 F hW qv37 dX12_layEntry_93 ?_
        refine lv_iconst (v := (1 : Int32)) hx hb dX12_layEntry_94 (by decide) ?_
        refine lv_iadd hx hb dX12_layEntry_95 ?_
        obtain ⟨μ38, qμ38, h⟩ := ob h
        refine fm_iast kyf_319 F hW hS qμ38 dX12_layEntry_96 (fun H locs hW hS => ?_)
        refine lv_aload_n hx hb dX12_layEntry_97 rfl (lv_at hl 2 rfl) ?_
        refine fl_get12 (v := .ref (b + 320)) kyf_306 F hW 31 (by decide) q_1502 rfl rfl dX12_layEntry_98 ?_
        refine lv_iload hx hb dX12_layEntry_101 (lv_at hl 0 rfl) ?_
        refine lv_dup2_11 hx hb dX12_layEntry_103 rfl rfl ?_
        obtain ⟨v39, qv39, h⟩ := ob h
        refine fm_iald kyf_320 F hW qv39 dX12_layEntry_104 ?_
        refine lv_iconst (v := (1 : Int32)) hx hb dX12_layEntry_105 (by decide) ?_
        refine lv_iload hx hb dX12_layEntry_106 (lv_at hl 1 rfl) ?_
        refine lv_iadd hx hb dX12_layEntry_108 ?_
        refine lv_iadd hx hb dX12_layEntry_109 ?_
        obtain ⟨μ40, qμ40, h⟩ := ob h
        refine fm_iast kyf_320 F hW hS qμ40 dX12_layEntry_110 (fun H locs hW hS => ?_)
        refine lv_goto (tgt := 130) hx hb dX12_layEntry_111 (by decide) ?_
        refine lv_iinc (v := (x3 + (1 : Int32))) (lv' := [(3, .int (x3 + (1 : Int32))), (5, .int v32), (4, .int v31), (0, .ref (b + 306)), (1, .int a1), (2, .int x2)]) hx hb dX12_layEntry_130 hl (k := 5) rfl rfl (by decide) rfl (fun ls hl => ?_)
        refine lv_goto (tgt := 41) hx hb dX12_layEntry_133 (by decide) ?_
        exact hk41 _ _ _ _ _ _ h hW hS (lv_sub hl [3, 4, 5, 0] rfl)
set_option maxHeartbeats 4000000 in
set_option maxRecDepth 100000 in
theorem wk_X12_layEntry {n : Nat} {a1 : Int32} {μ : Mm} {out : Mm} (F : FX (fg G) b RX12 cX12_layEntry 6 p s m args meth c) (hr : meth.sig.returnType = none) (h : sh_X12_layEntry n a1 μ = some out) (hW : WH (fg G) b μ H) (hS : va_S (fb b) s.heap H locs) (hl : lv_has ls 6 [(0, .ref (b + 306)), (1, .int a1)]) : W p l e ({ frames := 6, cells := 0, slots := 0, locals := 136 } : Room) s m args below meth c H locs 0 0 (MQ below (QW (fg G) b out none) args s 0 0 (fb b)) (F0 m 0 ls []) := by
  have hx := F.1
  have hb := F.2.1
  unfold sh_X12_layEntry at h
  refine lv_aload_n hx hb dX12_layEntry_0 rfl (lv_at hl 0 rfl) ?_
  refine fl_get12 (v := .ref (b + 324)) kyf_306 F hW 35 (by decide) q_1506 rfl rfl dX12_layEntry_1 ?_
  refine lv_iload_n hx hb dX12_layEntry_4 rfl (lv_at hl 1 rfl) ?_
  refine lv_aload_n hx hb dX12_layEntry_5 rfl (lv_at hl 0 rfl) ?_
  refine fl_get12 (v := .int (μ.1 306 36)) kyf_306 F hW 36 (by decide) q_1507 rfl rfl dX12_layEntry_6 ?_
  obtain ⟨μ1, qμ1, h⟩ := ob h
  refine fm_iast kyf_324 F hW hS qμ1 dX12_layEntry_9 (fun H locs hW hS => ?_)
  refine lv_aload_n hx hb dX12_layEntry_10 rfl (lv_at hl 0 rfl) ?_
  have pf2 := nd_ky hW.2.1
  refine fl_get12 (v := .ref (b + (μ1.2.2 0))) kyf_306 F hW 3 (by decide) q_1474 rfl rfl dX12_layEntry_11 ?_
  refine lv_iconst (v := (3 : Int32)) hx hb dX12_layEntry_14 (by decide) ?_
  obtain ⟨v3, qv3, h⟩ := ob h
  refine fm_iald pf2 F hW qv3 dX12_layEntry_15 ?_
  refine lv_aload_n hx hb dX12_layEntry_16 rfl (lv_at hl 0 rfl) ?_
  refine lv_iload_n hx hb dX12_layEntry_17 rfl (lv_at hl 1 rfl) ?_
  refine lv_iconst (v := (0 : Int32)) hx hb dX12_layEntry_18 (by decide) ?_
  obtain ⟨r4, qr4, h⟩ := ob h
  refine k_X12_of F qr4 q_1735 ⟨Nat.le_of_ble_eq_true rfl, Nat.le_of_ble_eq_true rfl, Nat.le_of_ble_eq_true rfl, Nat.le_of_ble_eq_true rfl⟩ hW hS hl.1 (Nat.le_of_ble_eq_true rfl) dX12_layEntry_19 (fun H locs hW hS => ?_)
  refine lv_iconst (v := (1 : Int32)) hx hb dX12_layEntry_22 (by decide) ?_
  refine lv_isub hx hb dX12_layEntry_23 ?_
  refine lv_imul hx hb dX12_layEntry_24 ?_
  obtain ⟨v5, ev5⟩ : ∃ y, y = (v3 * (r4 - (1 : Int32))) := ⟨_, rfl⟩
  have h := nm_at ev5 h
  rw [← ev5]
  refine lv_istore_n (lv' := [(2, .int v5), (0, .ref (b + 306)), (1, .int a1)]) hx hb dX12_layEntry_25 rfl hl (by decide) rfl (fun ls hl => ?_)
  refine lv_aload_n hx hb dX12_layEntry_26 rfl (lv_at hl 1 rfl) ?_
  refine lv_iload_n hx hb dX12_layEntry_27 rfl (lv_at hl 2 rfl) ?_
  refine lv_iconst (v := (0 : Int32)) hx hb dX12_layEntry_28 (by decide) ?_
  refine lv_iload_n hx hb dX12_layEntry_29 rfl (lv_at hl 0 rfl) ?_
  refine lv_aload_n hx hb dX12_layEntry_30 rfl (lv_at hl 1 rfl) ?_
  refine lv_iload_n hx hb dX12_layEntry_31 rfl (lv_at hl 2 rfl) ?_
  refine lv_iconst (v := (0 : Int32)) hx hb dX12_layEntry_32 (by decide) ?_
  obtain ⟨r6, qr6, h⟩ := ob h
  refine k_X12_tokenWidth F qr6 q_1828 ⟨Nat.le_of_ble_eq_true rfl, Nat.le_of_ble_eq_true rfl, Nat.le_of_ble_eq_true rfl, Nat.le_of_ble_eq_true rfl⟩ hW hS hl.1 (Nat.le_of_ble_eq_true rfl) dX12_layEntry_33 (fun H locs hW hS => ?_)
  obtain ⟨r7, qr7, h⟩ := ob h
  refine k_X12_beginLine F qr7 q_1848 ⟨Nat.le_of_ble_eq_true rfl, Nat.le_of_ble_eq_true rfl, Nat.le_of_ble_eq_true rfl, Nat.le_of_ble_eq_true rfl⟩ hW hS hl.1 (Nat.le_of_ble_eq_true rfl) dX12_layEntry_36 (fun H locs hW hS => ?_)
  refine lv_iconst (v := (1 : Int32)) hx hb dX12_layEntry_39 (by decide) ?_
  refine lv_istore_n (lv' := [(3, .int (1 : Int32)), (2, .int v5), (0, .ref (b + 306)), (1, .int a1)]) hx hb dX12_layEntry_40 rfl hl (by decide) rfl (fun ls hl => ?_)
  exact wk_X12_layEntry_41 F hr n _ _ _ _ _ _ h hW hS (lv_sub hl [2, 3, 1, 0] rfl)
set_option maxHeartbeats 4000000 in
set_option maxRecDepth 100000 in
theorem c_X12_layEntry {l : Launch} {G : Gt} {b : Nat} {n : Nat} {a1 : Int32} {μ : Mm} {out : Mm} (h : sh_X12_layEntry n a1 μ = some out) : Met l yX12_layEntry (wU (Cond.code yX12_layEntry cX12_layEntry 6 none)) ({ frames := 6, cells := 0, slots := 0, locals := 136 } : Room) (PcW (fg G) b μ [.ref (b + 306), .int a1]) (QW (fg G) b out none) 0 0 (fb b) :=
  met_of [.ref (b + 306), .int a1] (by decide) (Nat.le_of_ble_eq_true rfl) (fun F hr hW hl => wk_X12_layEntry F hr h hW va_S.rf hl)
set_option maxHeartbeats 4000000 in
set_option maxRecDepth 100000 in
theorem k_X12_layEntry {own : String} {nL : Nat} (F : FX (fg G) b own cc nL p s m args meth c) {n : Nat} {a1 : Int32} {μ : Mm} {out : Mm} (h : sh_X12_layEntry n a1 μ = some out) {index : Nat} (hl : Cond.methodLink own index yX12_layEntry ∈ TBG) (hR : 6 + 1 ≤ R.frames ∧ 8 + (6 + 11) + 136 ≤ R.locals ∧ cells ≤ R.cells ∧ slots ≤ R.slots) (hW : WH (fg G) b μ H) (hS : va_S (fb b) s.heap H locs) (hsz : ls.size = nL) (hrest : (rest.map fun v => v.category).sum ≤ 8) (hdg : decode cc pc = .ok (.invokevirtual index, 3))
    (kk : ∀ (H1 : Heap) (locs1 : List Loc), WH (fg G) b out H1 → va_S (fb b) s.heap H1 locs1 → W p l e R s m args below meth c H1 locs1 cells slots Q (F0 m (pc + 3) ls (rest))) : W p l e R s m args below meth c H locs cells slots Q (F0 m pc ls (.int a1 :: .ref (b + 306) :: rest)) :=
  f_callV (As := [.int a1]) (ci := 12) (c_X12_layEntry h) ⟨rfl, rfl⟩ rfl (ky_lm kyf_306 (by decide)) (wF_12 kyf_306) q_1826 qp_79 q_14 q_1827 rfl ⟨by decide +kernel, by decide +kernel, (show (parseMethodDescriptor yX12_layEntry.desc).map (fun d => d.parameters.length) = some 1 by decide +kernel)⟩ F hl hR hW hS hsz hrest rfl hdg kk
set_option maxHeartbeats 4000000 in
set_option maxRecDepth 100000 in
theorem wk_X12_layWith_74 {n : Nat} {a1 : Int32} {out : (Int32 × Mm)} (F : FX (fg G) b RX12 cX12_layWith 3 p s m args meth c) (hr : meth.sig.returnType = some .int) : ∀ (f : Nat) (x2 : Int32) (μ : Mm) (H : Heap) (locs : List Loc) (ls : Array Slot), sh_X12_layWith_74 n a1 f x2 μ = some out → WH (fg G) b μ H → va_S (fb b) s.heap H locs → lv_has ls 3 [(0, .ref (b + 306)), (2, .int x2)] → W p l e ({ frames := 7, cells := 0, slots := 0, locals := 161 } : Room) s m args below meth c H locs 0 0 (MQ below (QW (fg G) b out.2 (some (.int out.1))) args s 0 0 (fb b)) (F0 m 74 ls []) := by
  have hx := F.1
  have hb := F.2.1
  intro f
  induction f with
  | zero =>
    intro _ _ _ _ _ h
    rw [sh_X12_layWith_74] at h
    cases h
  | succ f ih =>
    intro x2 μ H locs ls h hW hS hl
    rw [sh_X12_layWith_74] at h
    have hk74 := ih
    refine lv_iload_n hx hb dX12_layWith_74 rfl (lv_at hl 1 rfl) ?_
    refine lv_aload_n hx hb dX12_layWith_75 rfl (lv_at hl 0 rfl) ?_
    have pf11 := nd_ky hW.2.1
    refine fl_get12 (v := .ref (b + (μ.2.2 0))) kyf_306 F hW 3 (by decide) q_1474 rfl rfl dX12_layWith_76 ?_
    refine lv_bipush (v := (9 : Int32)) hx hb dX12_layWith_79 (by decide) ?_
    obtain ⟨v12, qv12, h⟩ := ob h
    refine fm_iald pf11 F hW qv12 dX12_layWith_81 ?_
    refine lv_icmp_ge (tgt := 96) hx hb dX12_layWith_82 (by decide) (fun cc => ?_) (fun cc => ?_)
    · replace h := (if_pos cc).symm.trans h
      refine lv_aload_n hx hb dX12_layWith_96 rfl (lv_at hl 0 rfl) ?_
      refine fl_get12 (v := .int (μ.1 306 36)) kyf_306 F hW 36 (by decide) q_1507 rfl rfl dX12_layWith_97 ?_
      refine lv_aload_n hx hb dX12_layWith_100 rfl (lv_at hl 0 rfl) ?_
      have pf13 := nd_ky hW.2.1
      refine fl_get12 (v := .ref (b + (μ.2.2 0))) kyf_306 F hW 3 (by decide) q_1474 rfl rfl dX12_layWith_101 ?_
      refine lv_iconst (v := (1 : Int32)) hx hb dX12_layWith_104 (by decide) ?_
      obtain ⟨v14, qv14, h⟩ := ob h
      refine fm_iald pf13 F hW qv14 dX12_layWith_105 ?_
      refine lv_iadd hx hb dX12_layWith_106 ?_
      refine lv_iconst (v := (1 : Int32)) hx hb dX12_layWith_107 (by decide) ?_
      refine lv_isub hx hb dX12_layWith_108 ?_
      refine lv_aload_n hx hb dX12_layWith_109 rfl (lv_at hl 0 rfl) ?_
      have pf15 := nd_ky hW.2.1
      refine fl_get12 (v := .ref (b + (μ.2.2 0))) kyf_306 F hW 3 (by decide) q_1474 rfl rfl dX12_layWith_110 ?_
      refine lv_iconst (v := (1 : Int32)) hx hb dX12_layWith_113 (by decide) ?_
      obtain ⟨v16, qv16, h⟩ := ob h
      refine fm_iald pf15 F hW qv16 dX12_layWith_114 ?_
      obtain ⟨v17, qv17, h⟩ := ob h
      obtain ⟨zv17, qv17⟩ := dv_some qv17
      refine lv_idiv hx hb dX12_layWith_115 zv17 ?_
      rw [qv17]
      cases h
      exact r_int F hr hW hS dX12_layWith_116
    · replace h := (if_neg cc).symm.trans h
      refine lv_aload_n hx hb dX12_layWith_85 rfl (lv_at hl 0 rfl) ?_
      refine lv_iload_n hx hb dX12_layWith_86 rfl (lv_at hl 1 rfl) ?_
      obtain ⟨r18, qr18, h⟩ := ob h
      refine k_X12_layEntry F qr18 q_1824 ⟨Nat.le_of_ble_eq_true rfl, Nat.le_of_ble_eq_true rfl, Nat.le_of_ble_eq_true rfl, Nat.le_of_ble_eq_true rfl⟩ hW hS hl.1 (Nat.le_of_ble_eq_true rfl) dX12_layWith_87 (fun H locs hW hS => ?_)
      refine lv_iinc (v := (x2 + (1 : Int32))) (lv' := [(2, .int (x2 + (1 : Int32))), (0, .ref (b + 306))]) hx hb dX12_layWith_90 hl (k := 1) rfl rfl (by decide) rfl (fun ls hl => ?_)
      refine lv_goto (tgt := 74) hx hb dX12_layWith_93 (by decide) ?_
      exact hk74 _ _ _ _ _ h hW hS (lv_sub hl [1, 0] rfl)
set_option maxHeartbeats 4000000 in
set_option maxRecDepth 100000 in
theorem wk_X12_layWith_12 {n : Nat} {a1 : Int32} {out : (Int32 × Mm)} (F : FX (fg G) b RX12 cX12_layWith 3 p s m args meth c) (hr : meth.sig.returnType = some .int) : ∀ (f : Nat) (x2 : Int32) (μ : Mm) (H : Heap) (locs : List Loc) (ls : Array Slot), sh_X12_layWith_12 n a1 f x2 μ = some out → WH (fg G) b μ H → va_S (fb b) s.heap H locs → lv_has ls 3 [(0, .ref (b + 306)), (2, .int x2)] → W p l e ({ frames := 7, cells := 0, slots := 0, locals := 161 } : Room) s m args below meth c H locs 0 0 (MQ below (QW (fg G) b out.2 (some (.int out.1))) args s 0 0 (fb b)) (F0 m 12 ls []) := by
  have hx := F.1
  have hb := F.2.1
  intro f
  induction f with
  | zero =>
    intro _ _ _ _ _ h
    rw [sh_X12_layWith_12] at h
    cases h
  | succ f ih =>
    intro x2 μ H locs ls h hW hS hl
    rw [sh_X12_layWith_12] at h
    have hk12 := ih
    refine lv_iload_n hx hb dX12_layWith_12 rfl (lv_at hl 1 rfl) ?_
    refine lv_aload_n hx hb dX12_layWith_13 rfl (lv_at hl 0 rfl) ?_
    have pf3 := nd_ky hW.2.1
    refine fl_get12 (v := .ref (b + (μ.2.2 0))) kyf_306 F hW 3 (by decide) q_1474 rfl rfl dX12_layWith_14 ?_
    refine lv_bipush (v := (9 : Int32)) hx hb dX12_layWith_17 (by decide) ?_
    obtain ⟨v4, qv4, h⟩ := ob h
    refine fm_iald pf3 F hW qv4 dX12_layWith_19 ?_
    refine lv_icmp_ge (tgt := 45) hx hb dX12_layWith_20 (by decide) (fun cc => ?_) (fun cc => ?_)
    · replace h := (if_pos cc).symm.trans h
      refine lv_aload_n hx hb dX12_layWith_45 rfl (lv_at hl 0 rfl) ?_
      refine lv_aload_n hx hb dX12_layWith_46 rfl (lv_at hl 0 rfl) ?_
      have pf5 := nd_ky hW.2.1
      refine fl_get12 (v := .ref (b + (μ.2.2 0))) kyf_306 F hW 3 (by decide) q_1474 rfl rfl dX12_layWith_47 ?_
      refine lv_iconst (v := (0 : Int32)) hx hb dX12_layWith_50 (by decide) ?_
      obtain ⟨v6, qv6, h⟩ := ob h
      refine fm_iald pf5 F hW qv6 dX12_layWith_51 ?_
      refine lv_aload_n hx hb dX12_layWith_52 rfl (lv_at hl 0 rfl) ?_
      refine fl_get12 (v := .int (μ.1 306 37)) kyf_306 F hW 37 (by decide) q_1508 rfl rfl dX12_layWith_53 ?_
      refine lv_isub hx hb dX12_layWith_56 ?_
      refine lv_aload_n hx hb dX12_layWith_57 rfl (lv_at hl 0 rfl) ?_
      have pf7 := nd_ky hW.2.1
      refine fl_get12 (v := .ref (b + (μ.2.2 0))) kyf_306 F hW 3 (by decide) q_1474 rfl rfl dX12_layWith_58 ?_
      refine lv_iconst (v := (5 : Int32)) hx hb dX12_layWith_61 (by decide) ?_
      obtain ⟨v8, qv8, h⟩ := ob h
      refine fm_iald pf7 F hW qv8 dX12_layWith_62 ?_
      refine lv_isub hx hb dX12_layWith_63 ?_
      obtain ⟨μ9, hmμ9, h⟩ := ob h
      refine fl_put12_38 kyf_306 F hW hS q_1509 hmμ9 dX12_layWith_64 (fun H locs hW hS => ?_)
      refine lv_aload_n hx hb dX12_layWith_67 rfl (lv_at hl 0 rfl) ?_
      refine lv_iconst (v := (0 : Int32)) hx hb dX12_layWith_68 (by decide) ?_
      obtain ⟨μ10, hmμ10, h⟩ := ob h
      refine fl_put12_36 kyf_306 F hW hS q_1507 hmμ10 dX12_layWith_69 (fun H locs hW hS => ?_)
      refine lv_iconst (v := (0 : Int32)) hx hb dX12_layWith_72 (by decide) ?_
      refine lv_istore_n (lv' := [(2, .int (0 : Int32)), (0, .ref (b + 306))]) hx hb dX12_layWith_73 rfl hl (by decide) rfl (fun ls hl => ?_)
      exact wk_X12_layWith_74 F hr n _ _ _ _ _ h hW hS (lv_sub hl [1, 0] rfl)
    · replace h := (if_neg cc).symm.trans h
      refine lv_aload_n hx hb dX12_layWith_23 rfl (lv_at hl 0 rfl) ?_
      refine lv_aload_n hx hb dX12_layWith_24 rfl (lv_at hl 0 rfl) ?_
      refine fl_get12 (v := .int (μ.1 306 37)) kyf_306 F hW 37 (by decide) q_1508 rfl rfl dX12_layWith_25 ?_
      refine lv_aload_n hx hb dX12_layWith_28 rfl (lv_at hl 0 rfl) ?_
      refine lv_iload_n hx hb dX12_layWith_29 rfl (lv_at hl 1 rfl) ?_
      obtain ⟨r19, qr19, h⟩ := ob h
      refine k_X12_printedWidth F qr19 q_1792 ⟨Nat.le_of_ble_eq_true rfl, Nat.le_of_ble_eq_true rfl, Nat.le_of_ble_eq_true rfl, Nat.le_of_ble_eq_true rfl⟩ hW hS hl.1 (Nat.le_of_ble_eq_true rfl) dX12_layWith_30 (fun H locs hW hS => ?_)
      refine fl_max F hl.1 q_1823 q_43 q_3 mm_max (Nat.le_of_ble_eq_true rfl) (Nat.le_of_ble_eq_true rfl) (Nat.zero_le _) (Nat.zero_le _) dX12_layWith_33 ?_
      obtain ⟨μ20, hmμ20, h⟩ := ob h
      refine fl_put12_37 kyf_306 F hW hS q_1508 hmμ20 dX12_layWith_36 (fun H locs hW hS => ?_)
      refine lv_iinc (v := (x2 + (1 : Int32))) (lv' := [(2, .int (x2 + (1 : Int32))), (0, .ref (b + 306))]) hx hb dX12_layWith_39 hl (k := 1) rfl rfl (by decide) rfl (fun ls hl => ?_)
      refine lv_goto (tgt := 12) hx hb dX12_layWith_42 (by decide) ?_
      exact hk12 _ _ _ _ _ h hW hS (lv_sub hl [1, 0] rfl)
set_option maxHeartbeats 4000000 in
set_option maxRecDepth 100000 in
theorem wk_X12_layWith {n : Nat} {a1 : Int32} {μ : Mm} {out : (Int32 × Mm)} (F : FX (fg G) b RX12 cX12_layWith 3 p s m args meth c) (hr : meth.sig.returnType = some .int) (h : sh_X12_layWith n a1 μ = some out) (hW : WH (fg G) b μ H) (hS : va_S (fb b) s.heap H locs) (hl : lv_has ls 3 [(0, .ref (b + 306)), (1, .int a1)]) : W p l e ({ frames := 7, cells := 0, slots := 0, locals := 161 } : Room) s m args below meth c H locs 0 0 (MQ below (QW (fg G) b out.2 (some (.int out.1))) args s 0 0 (fb b)) (F0 m 0 ls []) := by
  have hx := F.1
  have hb := F.2.1
  unfold sh_X12_layWith at h
  refine lv_aload_n hx hb dX12_layWith_0 rfl (lv_at hl 0 rfl) ?_
  refine lv_iload_n hx hb dX12_layWith_1 rfl (lv_at hl 1 rfl) ?_
  obtain ⟨r1, qr1, h⟩ := ob h
  refine k_X12_layPages F qr1 q_1780 ⟨Nat.le_of_ble_eq_true rfl, Nat.le_of_ble_eq_true rfl, Nat.le_of_ble_eq_true rfl, Nat.le_of_ble_eq_true rfl⟩ hW hS hl.1 (Nat.le_of_ble_eq_true rfl) dX12_layWith_2 (fun H locs hW hS => ?_)
  refine lv_aload_n hx hb dX12_layWith_5 rfl (lv_at hl 0 rfl) ?_
  refine lv_iconst (v := (0 : Int32)) hx hb dX12_layWith_6 (by decide) ?_
  obtain ⟨μ2, hmμ2, h⟩ := ob h
  refine fl_put12_37 kyf_306 F hW hS q_1508 hmμ2 dX12_layWith_7 (fun H locs hW hS => ?_)
  refine lv_iconst (v := (0 : Int32)) hx hb dX12_layWith_10 (by decide) ?_
  refine lv_istore_n (lv' := [(2, .int (0 : Int32)), (0, .ref (b + 306)), (1, .int a1)]) hx hb dX12_layWith_11 rfl hl (by decide) rfl (fun ls hl => ?_)
  exact wk_X12_layWith_12 F hr n _ _ _ _ _ h hW hS (lv_sub hl [1, 0] rfl)
set_option maxHeartbeats 4000000 in
set_option maxRecDepth 100000 in
theorem c_X12_layWith {l : Launch} {G : Gt} {b : Nat} {n : Nat} {a1 : Int32} {μ : Mm} {out : (Int32 × Mm)} (h : sh_X12_layWith n a1 μ = some out) : Met l yX12_layWith (wU (Cond.code yX12_layWith cX12_layWith 3 (some .int))) ({ frames := 7, cells := 0, slots := 0, locals := 161 } : Room) (PcW (fg G) b μ [.ref (b + 306), .int a1]) (QW (fg G) b out.2 (some (.int out.1))) 0 0 (fb b) :=
  met_of [.ref (b + 306), .int a1] (by decide) (Nat.le_of_ble_eq_true rfl) (fun F hr hW hl => wk_X12_layWith F hr h hW va_S.rf hl)
set_option maxHeartbeats 4000000 in
set_option maxRecDepth 100000 in
theorem k_X12_layWith {own : String} {nL : Nat} (F : FX (fg G) b own cc nL p s m args meth c) {n : Nat} {a1 : Int32} {μ : Mm} {out : (Int32 × Mm)} (h : sh_X12_layWith n a1 μ = some out) {index : Nat} (hl : Cond.methodLink own index yX12_layWith ∈ TBG) (hR : 7 + 1 ≤ R.frames ∧ 8 + (3 + 11) + 161 ≤ R.locals ∧ cells ≤ R.cells ∧ slots ≤ R.slots) (hW : WH (fg G) b μ H) (hS : va_S (fb b) s.heap H locs) (hsz : ls.size = nL) (hrest : (rest.map fun v => v.category).sum ≤ 8) (hdg : decode cc pc = .ok (.invokevirtual index, 3))
    (kk : ∀ (H1 : Heap) (locs1 : List Loc), WH (fg G) b out.2 H1 → va_S (fb b) s.heap H1 locs1 → W p l e R s m args below meth c H1 locs1 cells slots Q (F0 m (pc + 3) ls (.int out.1 :: rest))) : W p l e R s m args below meth c H locs cells slots Q (F0 m pc ls (.int a1 :: .ref (b + 306) :: rest)) :=
  f_callV (As := [.int a1]) (ci := 12) (c_X12_layWith h) ⟨rfl, rfl⟩ rfl (ky_lm kyf_306 (by decide)) (wF_12 kyf_306) q_1778 qp_68 q_14 q_1779 rfl ⟨by decide +kernel, by decide +kernel, (show (parseMethodDescriptor yX12_layWith.desc).map (fun d => d.parameters.length) = some 1 by decide +kernel)⟩ F hl hR hW hS hsz hrest rfl hdg kk
set_option maxHeartbeats 4000000 in
set_option maxRecDepth 100000 in
theorem wk_X12_lay_101 {n : Nat} {x1 : Int32} {x2 : Int32} {μ : Mm} {out : Mm} (F : FX (fg G) b RX12 cX12_lay 3 p s m args meth c) (hr : meth.sig.returnType = none) (h : sh_X12_lay_101 n x1 x2 μ = some out) (hW : WH (fg G) b μ H) (hS : va_S (fb b) s.heap H locs) (hl : lv_has ls 3 [(0, .ref (b + 306)), (1, .int x1), (2, .int x2)]) : W p l e ({ frames := 8, cells := 0, slots := 0, locals := 183 } : Room) s m args below meth c H locs 0 0 (MQ below (QW (fg G) b out none) args s 0 0 (fb b)) (F0 m 101 ls []) := by
  have hx := F.1
  have hb := F.2.1
  unfold sh_X12_lay_101 at h
  refine lv_iload_n hx hb dX12_lay_101 rfl (lv_at hl 2 rfl) ?_
  refine lv_aload_n hx hb dX12_lay_102 rfl (lv_at hl 0 rfl) ?_
  refine fl_get12 (v := .int (μ.1 306 39)) kyf_306 F hW 39 (by decide) q_1510 rfl rfl dX12_lay_103 ?_
  refine lv_icmp_ne (tgt := 110) hx hb dX12_lay_106 (by decide) (fun cc => ?_) (fun cc => ?_)
  · replace h := (if_neg cc).symm.trans h
    refine lv_aload_n hx hb dX12_lay_110 rfl (lv_at hl 0 rfl) ?_
    refine lv_iload_n hx hb dX12_lay_111 rfl (lv_at hl 1 rfl) ?_
    obtain ⟨μ7, hmμ7, h⟩ := ob h
    refine fl_put12_39 kyf_306 F hW hS q_1510 hmμ7 dX12_lay_112 (fun H locs hW hS => ?_)
    refine lv_aload_n hx hb dX12_lay_115 rfl (lv_at hl 0 rfl) ?_
    refine lv_aload_n hx hb dX12_lay_116 rfl (lv_at hl 0 rfl) ?_
    refine fl_get12 (v := .int (μ7.1 306 39)) kyf_306 F hW 39 (by decide) q_1510 rfl rfl dX12_lay_117 ?_
    obtain ⟨r8, qr8, h⟩ := ob h
    refine k_X12_layWith F qr8 q_1776 ⟨Nat.le_of_ble_eq_true rfl, Nat.le_of_ble_eq_true rfl, Nat.le_of_ble_eq_true rfl, Nat.le_of_ble_eq_true rfl⟩ hW hS hl.1 (Nat.le_of_ble_eq_true rfl) dX12_lay_120 (fun H locs hW hS => ?_)
    obtain ⟨v9, ev9⟩ : ∃ y, y = r8.1 := ⟨_, rfl⟩
    have h := nm_at ev9 h
    rw [← ev9]
    refine lv_istore_n (lv' := [(2, .int v9), (0, .ref (b + 306)), (1, .int x1)]) hx hb dX12_lay_123 rfl hl (by decide) rfl (fun ls hl => ?_)
    cases h
    exact r_void F hr hW hS dX12_lay_124
  · replace h := (if_pos cc).symm.trans h
    cases h
    exact r_void F hr hW hS dX12_lay_109
set_option maxHeartbeats 4000000 in
set_option maxRecDepth 100000 in
theorem wk_X12_lay_70 {n : Nat} {k40 : (Int32 → Int32 → Mm → Option Mm)} {x1 : Int32} {s1 : Int32} {μ : Mm} {out : Mm} (F : FX (fg G) b RX12 cX12_lay 3 p s m args meth c) (hr : meth.sig.returnType = none) (hk40 : ∀ (x1 : Int32) (x2 : Int32) (μ : Mm) (H : Heap) (locs : List Loc) (ls : Array Slot), k40 x1 x2 μ = some out → WH (fg G) b μ H → va_S (fb b) s.heap H locs → lv_has ls 3 [(0, .ref (b + 306)), (1, .int x1), (2, .int x2)] → W p l e ({ frames := 8, cells := 0, slots := 0, locals := 183 } : Room) s m args below meth c H locs 0 0 (MQ below (QW (fg G) b out none) args s 0 0 (fb b)) (F0 m 40 ls [])) (h : sh_X12_lay_70 n k40 x1 s1 μ = some out) (hW : WH (fg G) b μ H) (hS : va_S (fb b) s.heap H locs) (hl : lv_has ls 3 [(0, .ref (b + 306)), (1, .int x1)]) : W p l e ({ frames := 8, cells := 0, slots := 0, locals := 183 } : Room) s m args below meth c H locs 0 0 (MQ below (QW (fg G) b out none) args s 0 0 (fb b)) (F0 m 70 ls [.int s1, .ref (b + 306)]) := by
  have hx := F.1
  have hb := F.2.1
  unfold sh_X12_lay_70 at h
  obtain ⟨μ10, hmμ10, h⟩ := ob h
  refine fl_put12_39 kyf_306 F hW hS q_1510 hmμ10 dX12_lay_70 (fun H locs hW hS => ?_)
  refine lv_aload_n hx hb dX12_lay_73 rfl (lv_at hl 0 rfl) ?_
  refine lv_dup hx hb dX12_lay_74 rfl ?_
  refine fl_get12 (v := .int (μ10.1 306 40)) kyf_306 F hW 40 (by decide) q_1511 rfl rfl dX12_lay_75 ?_
  refine lv_iconst (v := (1 : Int32)) hx hb dX12_lay_78 (by decide) ?_
  refine lv_iadd hx hb dX12_lay_79 ?_
  obtain ⟨μ11, hmμ11, h⟩ := ob h
  refine fl_put12_40 kyf_306 F hW hS q_1511 hmμ11 dX12_lay_80 (fun H locs hW hS => ?_)
  refine lv_aload_n hx hb dX12_lay_83 rfl (lv_at hl 0 rfl) ?_
  refine lv_aload_n hx hb dX12_lay_84 rfl (lv_at hl 0 rfl) ?_
  refine fl_get12 (v := .int (μ11.1 306 39)) kyf_306 F hW 39 (by decide) q_1510 rfl rfl dX12_lay_85 ?_
  obtain ⟨r12, qr12, h⟩ := ob h
  refine k_X12_layWith F qr12 q_1776 ⟨Nat.le_of_ble_eq_true rfl, Nat.le_of_ble_eq_true rfl, Nat.le_of_ble_eq_true rfl, Nat.le_of_ble_eq_true rfl⟩ hW hS hl.1 (Nat.le_of_ble_eq_true rfl) dX12_lay_88 (fun H locs hW hS => ?_)
  obtain ⟨v13, ev13⟩ : ∃ y, y = r12.1 := ⟨_, rfl⟩
  have h := nm_at ev13 h
  rw [← ev13]
  refine lv_istore_n (lv' := [(2, .int v13), (0, .ref (b + 306)), (1, .int x1)]) hx hb dX12_lay_91 rfl hl (by decide) rfl (fun ls hl => ?_)
  refine lv_iload_n hx hb dX12_lay_92 rfl (lv_at hl 2 rfl) ?_
  refine lv_iload_n hx hb dX12_lay_93 rfl (lv_at hl 0 rfl) ?_
  refine fl_max F hl.1 q_1823 q_43 q_3 mm_max (Nat.le_of_ble_eq_true rfl) (Nat.le_of_ble_eq_true rfl) (Nat.zero_le _) (Nat.zero_le _) dX12_lay_94 ?_
  obtain ⟨v14, ev14⟩ : ∃ y, y = (if x1 < v13 then v13 else x1) := ⟨_, rfl⟩
  have h := nm_at ev14 h
  rw [← ev14]
  refine lv_istore_n (lv' := [(1, .int v14), (2, .int v13), (0, .ref (b + 306))]) hx hb dX12_lay_97 rfl hl (by decide) rfl (fun ls hl => ?_)
  refine lv_goto (tgt := 40) hx hb dX12_lay_98 (by decide) ?_
  exact hk40 _ _ _ _ _ _ h hW hS (lv_sub hl [2, 0, 1] rfl)
set_option maxHeartbeats 4000000 in
set_option maxRecDepth 100000 in
theorem wk_X12_lay_40 {n : Nat} {out : Mm} (F : FX (fg G) b RX12 cX12_lay 3 p s m args meth c) (hr : meth.sig.returnType = none) : ∀ (f : Nat) (x1 : Int32) (x2 : Int32) (μ : Mm) (H : Heap) (locs : List Loc) (ls : Array Slot), sh_X12_lay_40 n f x1 x2 μ = some out → WH (fg G) b μ H → va_S (fb b) s.heap H locs → lv_has ls 3 [(0, .ref (b + 306)), (1, .int x1), (2, .int x2)] → W p l e ({ frames := 8, cells := 0, slots := 0, locals := 183 } : Room) s m args below meth c H locs 0 0 (MQ below (QW (fg G) b out none) args s 0 0 (fb b)) (F0 m 40 ls []) := by
  have hx := F.1
  have hb := F.2.1
  intro f
  induction f with
  | zero =>
    intro _ _ _ _ _ _ h
    rw [sh_X12_lay_40] at h
    cases h
  | succ f ih =>
    intro x1 x2 μ H locs ls h hW hS hl
    rw [sh_X12_lay_40] at h
    have hk40 := ih
    refine lv_aload_n hx hb dX12_lay_40 rfl (lv_at hl 0 rfl) ?_
    refine fl_get12 (v := .int (μ.1 306 40)) kyf_306 F hW 40 (by decide) q_1511 rfl rfl dX12_lay_41 ?_
    refine lv_bipush (v := (8 : Int32)) hx hb dX12_lay_44 (by decide) ?_
    refine lv_icmp_ge (tgt := 101) hx hb dX12_lay_46 (by decide) (fun cc => ?_) (fun cc => ?_)
    · replace h := (if_pos cc).symm.trans h
      exact wk_X12_lay_101 F hr h hW hS (lv_sub hl [0, 1, 2] rfl)
    · replace h := (if_neg cc).symm.trans h
      refine lv_iload_n hx hb dX12_lay_49 rfl (lv_at hl 2 rfl) ?_
      refine lv_aload_n hx hb dX12_lay_50 rfl (lv_at hl 0 rfl) ?_
      refine fl_get12 (v := .int (μ.1 306 39)) kyf_306 F hW 39 (by decide) q_1510 rfl rfl dX12_lay_51 ?_
      refine lv_icmp_eq (tgt := 101) hx hb dX12_lay_54 (by decide) (fun cc => ?_) (fun cc => ?_)
      · replace h := (if_pos cc).symm.trans h
        exact wk_X12_lay_101 F hr h hW hS (lv_sub hl [0, 1, 2] rfl)
      · replace h := (if_neg cc).symm.trans h
        refine lv_aload_n hx hb dX12_lay_57 rfl (lv_at hl 0 rfl) ?_
        refine lv_aload_n hx hb dX12_lay_58 rfl (lv_at hl 0 rfl) ?_
        refine fl_get12 (v := .int (μ.1 306 40)) kyf_306 F hW 40 (by decide) q_1511 rfl rfl dX12_lay_59 ?_
        refine lv_if_ne (tgt := 69) hx hb dX12_lay_62 (by decide) (fun cc => ?_) (fun cc => ?_)
        · replace h := (if_neg cc).symm.trans h
          refine lv_iload_n hx hb dX12_lay_69 rfl (lv_at hl 2 rfl) ?_
          exact wk_X12_lay_70 F hr hk40 h hW hS (lv_sub hl [0, 1] rfl)
        · replace h := (if_pos cc).symm.trans h
          refine lv_iconst (v := (1 : Int32)) hx hb dX12_lay_65 (by decide) ?_
          refine lv_goto (tgt := 70) hx hb dX12_lay_66 (by decide) ?_
          exact wk_X12_lay_70 F hr hk40 h hW hS (lv_sub hl [0, 1] rfl)
set_option maxHeartbeats 4000000 in
set_option maxRecDepth 100000 in
theorem wk_X12_lay {n : Nat} {μ : Mm} {out : Mm} (F : FX (fg G) b RX12 cX12_lay 3 p s m args meth c) (hr : meth.sig.returnType = none) (h : sh_X12_lay n  μ = some out) (hW : WH (fg G) b μ H) (hS : va_S (fb b) s.heap H locs) (hl : lv_has ls 3 [(0, .ref (b + 306))]) : W p l e ({ frames := 8, cells := 0, slots := 0, locals := 183 } : Room) s m args below meth c H locs 0 0 (MQ below (QW (fg G) b out none) args s 0 0 (fb b)) (F0 m 0 ls []) := by
  have hx := F.1
  have hb := F.2.1
  unfold sh_X12_lay at h
  refine lv_aload_n hx hb dX12_lay_0 rfl (lv_at hl 0 rfl) ?_
  obtain ⟨r1, qr1, h⟩ := ob h
  refine k_X12_layLabels F qr1 q_1768 ⟨Nat.le_of_ble_eq_true rfl, Nat.le_of_ble_eq_true rfl, Nat.le_of_ble_eq_true rfl, Nat.le_of_ble_eq_true rfl⟩ hW hS hl.1 (Nat.le_of_ble_eq_true rfl) dX12_lay_1 (fun H locs hW hS => ?_)
  refine lv_aload_n hx hb dX12_lay_4 rfl (lv_at hl 0 rfl) ?_
  refine lv_iconst (v := (0 : Int32)) hx hb dX12_lay_5 (by decide) ?_
  obtain ⟨μ2, hmμ2, h⟩ := ob h
  refine fl_put12_40 kyf_306 F hW hS q_1511 hmμ2 dX12_lay_6 (fun H locs hW hS => ?_)
  refine lv_aload_n hx hb dX12_lay_9 rfl (lv_at hl 0 rfl) ?_
  refine lv_iconst (v := (0 : Int32)) hx hb dX12_lay_10 (by decide) ?_
  obtain ⟨μ3, hmμ3, h⟩ := ob h
  refine fl_put12_39 kyf_306 F hW hS q_1510 hmμ3 dX12_lay_11 (fun H locs hW hS => ?_)
  refine lv_aload_n hx hb dX12_lay_14 rfl (lv_at hl 0 rfl) ?_
  have pf4 := nd_ky hW.2.1
  refine fl_get12 (v := .ref (b + (μ3.2.2 0))) kyf_306 F hW 3 (by decide) q_1474 rfl rfl dX12_lay_15 ?_
  refine lv_bipush (v := (9 : Int32)) hx hb dX12_lay_18 (by decide) ?_
  obtain ⟨v5, qv5, h⟩ := ob h
  refine fm_iald pf4 F hW qv5 dX12_lay_20 ?_
  refine lv_if_ne (tgt := 31) hx hb dX12_lay_21 (by decide) (fun cc => ?_) (fun cc => ?_)
  · replace h := (if_neg cc).symm.trans h
    refine lv_iconst (v := (0 : Int32)) hx hb dX12_lay_31 (by decide) ?_
    refine lv_istore_n (lv' := [(1, .int (0 : Int32)), (0, .ref (b + 306))]) hx hb dX12_lay_32 rfl hl (by decide) rfl (fun ls hl => ?_)
    refine lv_iconst (v := (0 : Int32)) hx hb dX12_lay_33 (by decide) ?_
    refine lv_istore_n (lv' := [(2, .int (0 : Int32)), (1, .int (0 : Int32)), (0, .ref (b + 306))]) hx hb dX12_lay_34 rfl hl (by decide) rfl (fun ls hl => ?_)
    refine lv_aload_n hx hb dX12_lay_35 rfl (lv_at hl 2 rfl) ?_
    refine lv_iconst (v := (1 : Int32)) hx hb dX12_lay_36 (by decide) ?_
    obtain ⟨μ6, hmμ6, h⟩ := ob h
    refine fl_put12_39 kyf_306 F hW hS q_1510 hmμ6 dX12_lay_37 (fun H locs hW hS => ?_)
    exact wk_X12_lay_40 F hr n _ _ _ _ _ _ h hW hS (lv_sub hl [2, 1, 0] rfl)
  · replace h := (if_pos cc).symm.trans h
    refine lv_aload_n hx hb dX12_lay_24 rfl (lv_at hl 0 rfl) ?_
    refine lv_iconst (v := (0 : Int32)) hx hb dX12_lay_25 (by decide) ?_
    obtain ⟨r15, qr15, h⟩ := ob h
    refine k_X12_layWith F qr15 q_1776 ⟨Nat.le_of_ble_eq_true rfl, Nat.le_of_ble_eq_true rfl, Nat.le_of_ble_eq_true rfl, Nat.le_of_ble_eq_true rfl⟩ hW hS hl.1 (Nat.le_of_ble_eq_true rfl) dX12_lay_26 (fun H locs hW hS => ?_)
    refine lv_pop hx hb dX12_lay_29 rfl ?_
    cases h
    exact r_void F hr hW hS dX12_lay_30
set_option maxHeartbeats 4000000 in
set_option maxRecDepth 100000 in
theorem c_X12_lay {l : Launch} {G : Gt} {b : Nat} {n : Nat} {μ : Mm} {out : Mm} (h : sh_X12_lay n  μ = some out) : Met l yX12_lay (wU (Cond.code yX12_lay cX12_lay 3 none)) ({ frames := 8, cells := 0, slots := 0, locals := 183 } : Room) (PcW (fg G) b μ [.ref (b + 306)]) (QW (fg G) b out none) 0 0 (fb b) :=
  met_of [.ref (b + 306)] (by decide) (Nat.le_of_ble_eq_true rfl) (fun F hr hW hl => wk_X12_lay F hr h hW va_S.rf hl)
set_option maxHeartbeats 4000000 in
set_option maxRecDepth 100000 in
theorem k_X12_lay {own : String} {nL : Nat} (F : FX (fg G) b own cc nL p s m args meth c) {n : Nat} {μ : Mm} {out : Mm} (h : sh_X12_lay n  μ = some out) {index : Nat} (hl : Cond.methodLink own index yX12_lay ∈ TBG) (hR : 8 + 1 ≤ R.frames ∧ 8 + (3 + 11) + 183 ≤ R.locals ∧ cells ≤ R.cells ∧ slots ≤ R.slots) (hW : WH (fg G) b μ H) (hS : va_S (fb b) s.heap H locs) (hsz : ls.size = nL) (hrest : (rest.map fun v => v.category).sum ≤ 8) (hdg : decode cc pc = .ok (.invokevirtual index, 3))
    (kk : ∀ (H1 : Heap) (locs1 : List Loc), WH (fg G) b out H1 → va_S (fb b) s.heap H1 locs1 → W p l e R s m args below meth c H1 locs1 cells slots Q (F0 m (pc + 3) ls (rest))) : W p l e R s m args below meth c H locs cells slots Q (F0 m pc ls (.ref (b + 306) :: rest)) :=
  f_callV (As := []) (ci := 12) (c_X12_lay h) ⟨rfl, rfl⟩ rfl (ky_lm kyf_306 (by decide)) (wF_12 kyf_306) q_1766 qp_65 q_14 q_1767 rfl ⟨by decide +kernel, by decide +kernel, (show (parseMethodDescriptor yX12_lay.desc).map (fun d => d.parameters.length) = some 0 by decide +kernel)⟩ F hl hR hW hS hsz hrest rfl hdg kk
set_option maxHeartbeats 4000000 in
set_option maxRecDepth 100000 in
theorem wk_X12_count_26 {n : Nat} {a1 : Int32} {out : (Int32 × Mm)} (F : FX (fg G) b RX12 cX12_count 4 p s m args meth c) (hr : meth.sig.returnType = some .int) : ∀ (f : Nat) (x2 : Int32) (x3 : Int32) (μ : Mm) (H : Heap) (locs : List Loc) (ls : Array Slot), sh_X12_count_26 n a1 f x2 x3 μ = some out → WH (fg G) b μ H → va_S (fb b) s.heap H locs → lv_has ls 4 [(0, .ref (b + 306)), (1, .int a1), (2, .int x2), (3, .int x3)] → W p l e ({ frames := 9, cells := 0, slots := 0, locals := 205 } : Room) s m args below meth c H locs 0 0 (MQ below (QW (fg G) b out.2 (some (.int out.1))) args s 0 0 (fb b)) (F0 m 26 ls []) := by
  have hx := F.1
  have hb := F.2.1
  intro f
  induction f with
  | zero =>
    intro _ _ _ _ _ _ h
    rw [sh_X12_count_26] at h
    cases h
  | succ f ih =>
    intro x2 x3 μ H locs ls h hW hS hl
    rw [sh_X12_count_26] at h
    have hk26 := ih
    refine lv_iload_n hx hb dX12_count_26 rfl (lv_at hl 3 rfl) ?_
    refine lv_aload_n hx hb dX12_count_27 rfl (lv_at hl 0 rfl) ?_
    refine fl_get12 (v := .ref (b + 307)) kyf_306 F hW 1 (by decide) q_1472 rfl rfl dX12_count_28 ?_
    refine lv_bipush (v := (9 : Int32)) hx hb dX12_count_31 (by decide) ?_
    obtain ⟨v4, qv4, h⟩ := ob h
    refine fm_iald kyf_307 F hW qv4 dX12_count_33 ?_
    refine lv_icmp_ge (tgt := 60) hx hb dX12_count_34 (by decide) (fun cc => ?_) (fun cc => ?_)
    · replace h := (if_pos cc).symm.trans h
      refine lv_iload_n hx hb dX12_count_60 rfl (lv_at hl 1 rfl) ?_
      by_cases cs0 : a1 = (0 : Int32)
      · replace h := (if_pos cs0).symm.trans h
        rw [cs0]
        refine lv_tableIn (off := 43) (tgt := 104) hx hb dX12_count_61 (by decide) (by decide) rfl (by decide) ?_
        refine lv_aload_n hx hb dX12_count_104 rfl (lv_at hl 0 rfl) ?_
        refine fl_get12 (v := .ref (b + 307)) kyf_306 F hW 1 (by decide) q_1472 rfl rfl dX12_count_105 ?_
        refine lv_bipush (v := (9 : Int32)) hx hb dX12_count_108 (by decide) ?_
        obtain ⟨v5, qv5, h⟩ := ob h
        refine fm_iald kyf_307 F hW qv5 dX12_count_110 ?_
        cases h
        exact r_int F hr hW hS dX12_count_111
      replace h := (if_neg cs0).symm.trans h
      by_cases cs1 : a1 = (1 : Int32)
      · replace h := (if_pos cs1).symm.trans h
        rw [cs1]
        refine lv_tableIn (off := 51) (tgt := 112) hx hb dX12_count_61 (by decide) (by decide) rfl (by decide) ?_
        refine lv_iload_n hx hb dX12_count_112 rfl (lv_at hl 2 rfl) ?_
        cases h
        exact r_int F hr hW hS dX12_count_113
      replace h := (if_neg cs1).symm.trans h
      by_cases cs2 : a1 = (2 : Int32)
      · replace h := (if_pos cs2).symm.trans h
        rw [cs2]
        refine lv_tableIn (off := 53) (tgt := 114) hx hb dX12_count_61 (by decide) (by decide) rfl (by decide) ?_
        refine lv_aload_n hx hb dX12_count_114 rfl (lv_at hl 0 rfl) ?_
        refine fl_get12 (v := .int (μ.1 306 36)) kyf_306 F hW 36 (by decide) q_1507 rfl rfl dX12_count_115 ?_
        cases h
        exact r_int F hr hW hS dX12_count_118
      replace h := (if_neg cs2).symm.trans h
      by_cases cs3 : a1 = (3 : Int32)
      · replace h := (if_pos cs3).symm.trans h
        rw [cs3]
        refine lv_tableIn (off := 58) (tgt := 119) hx hb dX12_count_61 (by decide) (by decide) rfl (by decide) ?_
        refine lv_aload_n hx hb dX12_count_119 rfl (lv_at hl 0 rfl) ?_
        refine fl_get12 (v := .int (μ.1 306 39)) kyf_306 F hW 39 (by decide) q_1510 rfl rfl dX12_count_120 ?_
        cases h
        exact r_int F hr hW hS dX12_count_123
      replace h := (if_neg cs3).symm.trans h
      by_cases cs4 : a1 = (4 : Int32)
      · replace h := (if_pos cs4).symm.trans h
        rw [cs4]
        refine lv_tableIn (off := 63) (tgt := 124) hx hb dX12_count_61 (by decide) (by decide) rfl (by decide) ?_
        refine lv_aload_n hx hb dX12_count_124 rfl (lv_at hl 0 rfl) ?_
        refine fl_get12 (v := .int (μ.1 306 24)) kyf_306 F hW 24 (by decide) q_1495 rfl rfl dX12_count_125 ?_
        cases h
        exact r_int F hr hW hS dX12_count_128
      replace h := (if_neg cs4).symm.trans h
      by_cases cs5 : a1 = (5 : Int32)
      · replace h := (if_pos cs5).symm.trans h
        rw [cs5]
        refine lv_tableIn (off := 68) (tgt := 129) hx hb dX12_count_61 (by decide) (by decide) rfl (by decide) ?_
        refine lv_aload_n hx hb dX12_count_129 rfl (lv_at hl 0 rfl) ?_
        refine fl_get12 (v := .int (μ.1 306 23)) kyf_306 F hW 23 (by decide) q_1494 rfl rfl dX12_count_130 ?_
        cases h
        exact r_int F hr hW hS dX12_count_133
      replace h := (if_neg cs5).symm.trans h
      by_cases cs6 : a1 = (6 : Int32)
      · replace h := (if_pos cs6).symm.trans h
        rw [cs6]
        refine lv_tableIn (off := 73) (tgt := 134) hx hb dX12_count_61 (by decide) (by decide) rfl (by decide) ?_
        refine lv_aload_n hx hb dX12_count_134 rfl (lv_at hl 0 rfl) ?_
        refine fl_get12 (v := .int (μ.1 306 37)) kyf_306 F hW 37 (by decide) q_1508 rfl rfl dX12_count_135 ?_
        cases h
        exact r_int F hr hW hS dX12_count_138
      replace h := (if_neg cs6).symm.trans h
      refine lv_tableOut (tgt := 139) hx hb dX12_count_61 (t_out (hi := 6) ?_ (by decide)) (by decide) ?_
      · intro k hk
        rcases (show k = 0 ∨ k = 1 ∨ k = 2 ∨ k = 3 ∨ k = 4 ∨ k = 5 ∨ k = 6 by omega) with rfl | rfl | rfl | rfl | rfl | rfl | rfl
        · exact cs0
        · exact cs1
        · exact cs2
        · exact cs3
        · exact cs4
        · exact cs5
        · exact cs6
      refine lv_aload_n hx hb dX12_count_139 rfl (lv_at hl 0 rfl) ?_
      refine fl_get12 (v := .int (μ.1 306 38)) kyf_306 F hW 38 (by decide) q_1509 rfl rfl dX12_count_140 ?_
      cases h
      exact r_int F hr hW hS dX12_count_143
    · replace h := (if_neg cc).symm.trans h
      refine lv_iload_n hx hb dX12_count_37 rfl (lv_at hl 2 rfl) ?_
      refine lv_aload_n hx hb dX12_count_38 rfl (lv_at hl 0 rfl) ?_
      refine lv_iload_n hx hb dX12_count_39 rfl (lv_at hl 3 rfl) ?_
      refine lv_iconst (v := (2 : Int32)) hx hb dX12_count_40 (by decide) ?_
      obtain ⟨r6, qr6, h⟩ := ob h
      refine k_X12_of F qr6 q_1735 ⟨Nat.le_of_ble_eq_true rfl, Nat.le_of_ble_eq_true rfl, Nat.le_of_ble_eq_true rfl, Nat.le_of_ble_eq_true rfl⟩ hW hS hl.1 (Nat.le_of_ble_eq_true rfl) dX12_count_41 (fun H locs hW hS => ?_)
      refine lv_if_ne (tgt := 51) hx hb dX12_count_44 (by decide) (fun cc => ?_) (fun cc => ?_)
      · replace h := (if_neg cc).symm.trans h
        refine lv_iconst (v := (0 : Int32)) hx hb dX12_count_51 (by decide) ?_
        refine lv_iadd hx hb dX12_count_52 ?_
        obtain ⟨v7, ev7⟩ : ∃ y, y = (x2 + (0 : Int32)) := ⟨_, rfl⟩
        have h := nm_at ev7 h
        rw [← ev7]
        refine lv_istore_n (lv' := [(2, .int v7), (0, .ref (b + 306)), (1, .int a1), (3, .int x3)]) hx hb dX12_count_53 rfl hl (by decide) rfl (fun ls hl => ?_)
        refine lv_iinc (v := (x3 + (1 : Int32))) (lv' := [(3, .int (x3 + (1 : Int32))), (2, .int v7), (0, .ref (b + 306)), (1, .int a1)]) hx hb dX12_count_54 hl (k := 3) rfl rfl (by decide) rfl (fun ls hl => ?_)
        refine lv_goto (tgt := 26) hx hb dX12_count_57 (by decide) ?_
        exact hk26 _ _ _ _ _ _ h hW hS (lv_sub hl [2, 3, 1, 0] rfl)
      · replace h := (if_pos cc).symm.trans h
        refine lv_iconst (v := (1 : Int32)) hx hb dX12_count_47 (by decide) ?_
        refine lv_goto (tgt := 52) hx hb dX12_count_48 (by decide) ?_
        refine lv_iadd hx hb dX12_count_52 ?_
        obtain ⟨v8, ev8⟩ : ∃ y, y = (x2 + (1 : Int32)) := ⟨_, rfl⟩
        have h := nm_at ev8 h
        rw [← ev8]
        refine lv_istore_n (lv' := [(2, .int v8), (0, .ref (b + 306)), (1, .int a1), (3, .int x3)]) hx hb dX12_count_53 rfl hl (by decide) rfl (fun ls hl => ?_)
        refine lv_iinc (v := (x3 + (1 : Int32))) (lv' := [(3, .int (x3 + (1 : Int32))), (2, .int v8), (0, .ref (b + 306)), (1, .int a1)]) hx hb dX12_count_54 hl (k := 3) rfl rfl (by decide) rfl (fun ls hl => ?_)
        refine lv_goto (tgt := 26) hx hb dX12_count_57 (by decide) ?_
        exact hk26 _ _ _ _ _ _ h hW hS (lv_sub hl [2, 3, 1, 0] rfl)
set_option maxHeartbeats 4000000 in
set_option maxRecDepth 100000 in
theorem wk_X12_count {n : Nat} {a1 : Int32} {μ : Mm} {out : (Int32 × Mm)} (F : FX (fg G) b RX12 cX12_count 4 p s m args meth c) (hr : meth.sig.returnType = some .int) (h : sh_X12_count n a1 μ = some out) (hW : WH (fg G) b μ H) (hS : va_S (fb b) s.heap H locs) (hl : lv_has ls 4 [(0, .ref (b + 306)), (1, .int a1)]) : W p l e ({ frames := 9, cells := 0, slots := 0, locals := 205 } : Room) s m args below meth c H locs 0 0 (MQ below (QW (fg G) b out.2 (some (.int out.1))) args s 0 0 (fb b)) (F0 m 0 ls []) := by
  have hx := F.1
  have hb := F.2.1
  unfold sh_X12_count at h
  refine lv_aload_n hx hb dX12_count_0 rfl (lv_at hl 0 rfl) ?_
  refine lv_iload_n hx hb dX12_count_1 rfl (lv_at hl 1 rfl) ?_
  refine lv_i2l hx hb dX12_count_2 rfl ?_
  refine lv_lconst (v := (0 : Int64)) hx hb dX12_count_3 (by decide) ?_
  refine lv_ldc2 hx hb F.2.2.2.1 (F.2.2.2.2.1 _ q_1763) dX12_count_4 ?_
  obtain ⟨r1, qr1, h⟩ := ob h
  refine k_X12_in F qr1 q_1643 ⟨Nat.le_of_ble_eq_true rfl, Nat.le_of_ble_eq_true rfl, Nat.le_of_ble_eq_true rfl, Nat.le_of_ble_eq_true rfl⟩ hW hS hl.1 (Nat.le_of_ble_eq_true rfl) dX12_count_7 (fun H locs hW hS => ?_)
  obtain ⟨r2, qr2, h⟩ := ob h
  refine k_X12_passes F qr2 q_1627 ⟨Nat.le_of_ble_eq_true rfl, Nat.le_of_ble_eq_true rfl, Nat.le_of_ble_eq_true rfl, Nat.le_of_ble_eq_true rfl⟩ hW hS hl.1 (Nat.le_of_ble_eq_true rfl) dX12_count_10 (fun H locs hW hS => ?_)
  refine lv_if_ne (tgt := 18) hx hb dX12_count_13 (by decide) (fun cc => ?_) (fun cc => ?_)
  · replace h := (if_neg cc).symm.trans h
    refine lv_aload_n hx hb dX12_count_18 rfl (lv_at hl 0 rfl) ?_
    obtain ⟨r3, qr3, h⟩ := ob h
    refine k_X12_lay F qr3 q_1764 ⟨Nat.le_of_ble_eq_true rfl, Nat.le_of_ble_eq_true rfl, Nat.le_of_ble_eq_true rfl, Nat.le_of_ble_eq_true rfl⟩ hW hS hl.1 (Nat.le_of_ble_eq_true rfl) dX12_count_19 (fun H locs hW hS => ?_)
    refine lv_iconst (v := (0 : Int32)) hx hb dX12_count_22 (by decide) ?_
    refine lv_istore_n (lv' := [(2, .int (0 : Int32)), (0, .ref (b + 306)), (1, .int a1)]) hx hb dX12_count_23 rfl hl (by decide) rfl (fun ls hl => ?_)
    refine lv_iconst (v := (0 : Int32)) hx hb dX12_count_24 (by decide) ?_
    refine lv_istore_n (lv' := [(3, .int (0 : Int32)), (2, .int (0 : Int32)), (0, .ref (b + 306)), (1, .int a1)]) hx hb dX12_count_25 rfl hl (by decide) rfl (fun ls hl => ?_)
    exact wk_X12_count_26 F hr n _ _ _ _ _ _ h hW hS (lv_sub hl [2, 3, 1, 0] rfl)
  · replace h := (if_pos cc).symm.trans h
    refine lv_iconst (v := (0 : Int32)) hx hb dX12_count_16 (by decide) ?_
    cases h
    exact r_int F hr hW hS dX12_count_17
set_option maxHeartbeats 4000000 in
set_option maxRecDepth 100000 in
theorem c_X12_count {l : Launch} {G : Gt} {b : Nat} {n : Nat} {a1 : Int32} {μ : Mm} {out : (Int32 × Mm)} (h : sh_X12_count n a1 μ = some out) : Met l yX12_count (wU (Cond.code yX12_count cX12_count 4 (some .int))) ({ frames := 9, cells := 0, slots := 0, locals := 205 } : Room) (PcW (fg G) b μ [.ref (b + 306), .int a1]) (QW (fg G) b out.2 (some (.int out.1))) 0 0 (fb b) :=
  met_of [.ref (b + 306), .int a1] (by decide) (Nat.le_of_ble_eq_true rfl) (fun F hr hW hl => wk_X12_count F hr h hW va_S.rf hl)
set_option maxHeartbeats 4000000 in
set_option maxRecDepth 100000 in
theorem k_X12_count {own : String} {nL : Nat} (F : FX (fg G) b own cc nL p s m args meth c) {n : Nat} {a1 : Int32} {μ : Mm} {out : (Int32 × Mm)} (h : sh_X12_count n a1 μ = some out) {index : Nat} (hl : Cond.methodLink own index yX12_count ∈ TBG) (hR : 9 + 1 ≤ R.frames ∧ 8 + (4 + 11) + 205 ≤ R.locals ∧ cells ≤ R.cells ∧ slots ≤ R.slots) (hW : WH (fg G) b μ H) (hS : va_S (fb b) s.heap H locs) (hsz : ls.size = nL) (hrest : (rest.map fun v => v.category).sum ≤ 8) (hdg : decode cc pc = .ok (.invokevirtual index, 3))
    (kk : ∀ (H1 : Heap) (locs1 : List Loc), WH (fg G) b out.2 H1 → va_S (fb b) s.heap H1 locs1 → W p l e R s m args below meth c H1 locs1 cells slots Q (F0 m (pc + 3) ls (.int out.1 :: rest))) : W p l e R s m args below meth c H locs cells slots Q (F0 m pc ls (.int a1 :: .ref (b + 306) :: rest)) :=
  f_callV (As := [.int a1]) (ci := 12) (c_X12_count h) ⟨rfl, rfl⟩ rfl (ky_lm kyf_306 (by decide)) (wF_12 kyf_306) q_1760 q_1761 q_14 q_1762 rfl ⟨by decide +kernel, by decide +kernel, (show (parseMethodDescriptor yX12_count.desc).map (fun d => d.parameters.length) = some 1 by decide +kernel)⟩ F hl hR hW hS hsz hrest rfl hdg kk
set_option maxHeartbeats 4000000 in
set_option maxRecDepth 100000 in
theorem wk_X12_setting {a1 : Int32} {μ : Mm} {out : (Int32 × Mm)} (F : FX (fg G) b RX12 cX12_setting 2 p s m args meth c) (hr : meth.sig.returnType = some .int) (h : sh_X12_setting a1 μ = some out) (hW : WH (fg G) b μ H) (hS : va_S (fb b) s.heap H locs) (hl : lv_has ls 2 [(0, .ref (b + 306)), (1, .int a1)]) : W p l e ({ frames := 2, cells := 0, slots := 0, locals := 44 } : Room) s m args below meth c H locs 0 0 (MQ below (QW (fg G) b out.2 (some (.int out.1))) args s 0 0 (fb b)) (F0 m 0 ls []) := by
  have hx := F.1
  have hb := F.2.1
  unfold sh_X12_setting at h
  refine lv_aload_n hx hb dX12_setting_0 rfl (lv_at hl 0 rfl) ?_
  refine lv_iload_n hx hb dX12_setting_1 rfl (lv_at hl 1 rfl) ?_
  refine lv_i2l hx hb dX12_setting_2 rfl ?_
  refine lv_lconst (v := (0 : Int64)) hx hb dX12_setting_3 (by decide) ?_
  refine lv_ldc2 hx hb F.2.2.2.1 (F.2.2.2.2.1 _ q_1763) dX12_setting_4 ?_
  obtain ⟨r1, qr1, h⟩ := ob h
  refine k_X12_in F qr1 q_1643 ⟨Nat.le_of_ble_eq_true rfl, Nat.le_of_ble_eq_true rfl, Nat.le_of_ble_eq_true rfl, Nat.le_of_ble_eq_true rfl⟩ hW hS hl.1 (Nat.le_of_ble_eq_true rfl) dX12_setting_7 (fun H locs hW hS => ?_)
  obtain ⟨r2, qr2, h⟩ := ob h
  refine k_X12_passes F qr2 q_1627 ⟨Nat.le_of_ble_eq_true rfl, Nat.le_of_ble_eq_true rfl, Nat.le_of_ble_eq_true rfl, Nat.le_of_ble_eq_true rfl⟩ hW hS hl.1 (Nat.le_of_ble_eq_true rfl) dX12_setting_10 (fun H locs hW hS => ?_)
  refine lv_if_eq (tgt := 25) hx hb dX12_setting_13 (by decide) (fun cc => ?_) (fun cc => ?_)
  · replace h := (if_pos cc).symm.trans h
    refine lv_iconst (v := (0 : Int32)) hx hb dX12_setting_25 (by decide) ?_
    cases h
    exact r_int F hr hW hS dX12_setting_26
  · replace h := (if_neg cc).symm.trans h
    refine lv_aload_n hx hb dX12_setting_16 rfl (lv_at hl 0 rfl) ?_
    refine fl_get12 (v := .ref (b + 307)) kyf_306 F hW 1 (by decide) q_1472 rfl rfl dX12_setting_17 ?_
    refine lv_iload_n hx hb dX12_setting_20 rfl (lv_at hl 1 rfl) ?_
    obtain ⟨v3, qv3, h⟩ := ob h
    refine fm_iald kyf_307 F hW qv3 dX12_setting_21 ?_
    refine lv_goto (tgt := 26) hx hb dX12_setting_22 (by decide) ?_
    cases h
    exact r_int F hr hW hS dX12_setting_26
set_option maxHeartbeats 4000000 in
set_option maxRecDepth 100000 in
theorem c_X12_setting {l : Launch} {G : Gt} {b : Nat} {a1 : Int32} {μ : Mm} {out : (Int32 × Mm)} (h : sh_X12_setting a1 μ = some out) : Met l yX12_setting (wU (Cond.code yX12_setting cX12_setting 2 (some .int))) ({ frames := 2, cells := 0, slots := 0, locals := 44 } : Room) (PcW (fg G) b μ [.ref (b + 306), .int a1]) (QW (fg G) b out.2 (some (.int out.1))) 0 0 (fb b) :=
  met_of [.ref (b + 306), .int a1] (by decide) (Nat.le_of_ble_eq_true rfl) (fun F hr hW hl => wk_X12_setting F hr h hW va_S.rf hl)
set_option maxHeartbeats 4000000 in
set_option maxRecDepth 100000 in
theorem k_X12_setting {own : String} {nL : Nat} (F : FX (fg G) b own cc nL p s m args meth c) {a1 : Int32} {μ : Mm} {out : (Int32 × Mm)} (h : sh_X12_setting a1 μ = some out) {index : Nat} (hl : Cond.methodLink own index yX12_setting ∈ TBG) (hR : 2 + 1 ≤ R.frames ∧ 8 + (2 + 11) + 44 ≤ R.locals ∧ cells ≤ R.cells ∧ slots ≤ R.slots) (hW : WH (fg G) b μ H) (hS : va_S (fb b) s.heap H locs) (hsz : ls.size = nL) (hrest : (rest.map fun v => v.category).sum ≤ 8) (hdg : decode cc pc = .ok (.invokevirtual index, 3))
    (kk : ∀ (H1 : Heap) (locs1 : List Loc), WH (fg G) b out.2 H1 → va_S (fb b) s.heap H1 locs1 → W p l e R s m args below meth c H1 locs1 cells slots Q (F0 m (pc + 3) ls (.int out.1 :: rest))) : W p l e R s m args below meth c H locs cells slots Q (F0 m pc ls (.int a1 :: .ref (b + 306) :: rest)) :=
  f_callV (As := [.int a1]) (ci := 12) (c_X12_setting h) ⟨rfl, rfl⟩ rfl (ky_lm kyf_306 (by decide)) (wF_12 kyf_306) q_1857 q_1858 q_14 q_1859 rfl ⟨by decide +kernel, by decide +kernel, (show (parseMethodDescriptor yX12_setting.desc).map (fun d => d.parameters.length) = some 1 by decide +kernel)⟩ F hl hR hW hS hsz hrest rfl hdg kk
set_option maxHeartbeats 4000000 in
set_option maxRecDepth 100000 in
theorem wk_X12_isRight {μ : Mm} {out : (Int32 × Mm)} (F : FX (fg G) b RX12 cX12_isRight 1 p s m args meth c) (hr : meth.sig.returnType = some .boolean) (h : sh_X12_isRight  μ = some out) (hW : WH (fg G) b μ H) (hS : va_S (fb b) s.heap H locs) (hl : lv_has ls 1 [(0, .ref (b + 306))]) : W p l e ({ frames := 0, cells := 0, slots := 0, locals := 0 } : Room) s m args below meth c H locs 0 0 (MQ below (QW (fg G) b out.2 (some (.int out.1))) args s 0 0 (fb b)) (F0 m 0 ls []) := by
  have hx := F.1
  have hb := F.2.1
  unfold sh_X12_isRight at h
  refine lv_aload_n hx hb dX12_isRight_0 rfl (lv_at hl 0 rfl) ?_
  refine lv_iconst (v := (0 : Int32)) hx hb dX12_isRight_1 (by decide) ?_
  obtain ⟨μ1, hmμ1, h⟩ := ob h
  refine fl_put12_0 kyf_306 F hW hS q_1471 hmμ1 dX12_isRight_2 (fun H locs hW hS => ?_)
  refine lv_aload_n hx hb dX12_isRight_5 rfl (lv_at hl 0 rfl) ?_
  refine fl_get12 (v := .ref (b + 307)) kyf_306 F hW 1 (by decide) q_1472 rfl rfl dX12_isRight_6 ?_
  refine lv_bipush (v := (8 : Int32)) hx hb dX12_isRight_9 (by decide) ?_
  obtain ⟨v2, qv2, h⟩ := ob h
  refine fm_iald kyf_307 F hW qv2 dX12_isRight_11 ?_
  refine lv_iconst (v := (1 : Int32)) hx hb dX12_isRight_12 (by decide) ?_
  refine lv_icmp_ne (tgt := 20) hx hb dX12_isRight_13 (by decide) (fun cc => ?_) (fun cc => ?_)
  · replace h := (if_neg cc).symm.trans h
    refine lv_iconst (v := (0 : Int32)) hx hb dX12_isRight_20 (by decide) ?_
    cases h
    exact r_bool F hr (Or.inl rfl) hW hS dX12_isRight_21
  · replace h := (if_pos cc).symm.trans h
    refine lv_iconst (v := (1 : Int32)) hx hb dX12_isRight_16 (by decide) ?_
    refine lv_goto (tgt := 21) hx hb dX12_isRight_17 (by decide) ?_
    cases h
    exact r_bool F hr (Or.inr rfl) hW hS dX12_isRight_21
set_option maxHeartbeats 4000000 in
set_option maxRecDepth 100000 in
theorem c_X12_isRight {l : Launch} {G : Gt} {b : Nat} {μ : Mm} {out : (Int32 × Mm)} (h : sh_X12_isRight  μ = some out) : Met l yX12_isRight (wU (Cond.code yX12_isRight cX12_isRight 1 (some .boolean))) ({ frames := 0, cells := 0, slots := 0, locals := 0 } : Room) (PcW (fg G) b μ [.ref (b + 306)]) (QW (fg G) b out.2 (some (.int out.1))) 0 0 (fb b) :=
  met_of [.ref (b + 306)] (by decide) (Nat.le_of_ble_eq_true rfl) (fun F hr hW hl => wk_X12_isRight F hr h hW va_S.rf hl)
set_option maxHeartbeats 4000000 in
set_option maxRecDepth 100000 in
theorem k_X12_isRight {own : String} {nL : Nat} (F : FX (fg G) b own cc nL p s m args meth c) {μ : Mm} {out : (Int32 × Mm)} (h : sh_X12_isRight  μ = some out) {index : Nat} (hl : Cond.methodLink own index yX12_isRight ∈ TBG) (hR : 0 + 1 ≤ R.frames ∧ 8 + (1 + 11) + 0 ≤ R.locals ∧ cells ≤ R.cells ∧ slots ≤ R.slots) (hW : WH (fg G) b μ H) (hS : va_S (fb b) s.heap H locs) (hsz : ls.size = nL) (hrest : (rest.map fun v => v.category).sum ≤ 8) (hdg : decode cc pc = .ok (.invokevirtual index, 3))
    (kk : ∀ (H1 : Heap) (locs1 : List Loc), WH (fg G) b out.2 H1 → va_S (fb b) s.heap H1 locs1 → W p l e R s m args below meth c H1 locs1 cells slots Q (F0 m (pc + 3) ls (.int out.1 :: rest))) : W p l e R s m args below meth c H locs cells slots Q (F0 m pc ls (.ref (b + 306) :: rest)) :=
  f_callV (As := []) (ci := 12) (c_X12_isRight h) ⟨rfl, rfl⟩ rfl (ky_lm kyf_306 (by decide)) (wF_12 kyf_306) q_1861 q_1862 q_14 q_1863 rfl ⟨by decide +kernel, by decide +kernel, (show (parseMethodDescriptor yX12_isRight.desc).map (fun d => d.parameters.length) = some 0 by decide +kernel)⟩ F hl hR hW hS hsz hrest rfl hdg kk
set_option maxHeartbeats 4000000 in
set_option maxRecDepth 100000 in
theorem wk_X12_childrenOf_4 {n : Nat} {a1 : Int32} {μ : Mm} {out : Int32} (F : FX (fg G) b RX12 cX12_childrenOf 4 p s m args meth c) (hr : meth.sig.returnType = some .int) : ∀ (f : Nat) (x2 : Int32) (x3 : Int32) (H : Heap) (locs : List Loc) (ls : Array Slot), sh_X12_childrenOf_4 n a1 μ f x2 x3 = some out → WH (fg G) b μ H → va_S (fb b) s.heap H locs → lv_has ls 4 [(0, .ref (b + 306)), (1, .int a1), (2, .int x2), (3, .int x3)] → W p l e ({ frames := 0, cells := 0, slots := 0, locals := 0 } : Room) s m args below meth c H locs 0 0 (MQ below (QW (fg G) b μ (some (.int out))) args s 0 0 (fb b)) (F0 m 4 ls []) := by
  have hx := F.1
  have hb := F.2.1
  intro f
  induction f with
  | zero =>
    intro _ _ _ _ _ h
    rw [sh_X12_childrenOf_4] at h
    cases h
  | succ f ih =>
    intro x2 x3  H locs ls h hW hS hl
    rw [sh_X12_childrenOf_4] at h
    have hk4 := ih
    refine lv_iload_n hx hb dX12_childrenOf_4 rfl (lv_at hl 3 rfl) ?_
    refine lv_aload_n hx hb dX12_childrenOf_5 rfl (lv_at hl 0 rfl) ?_
    refine fl_get12 (v := .ref (b + 307)) kyf_306 F hW 1 (by decide) q_1472 rfl rfl dX12_childrenOf_6 ?_
    refine lv_bipush (v := (9 : Int32)) hx hb dX12_childrenOf_9 (by decide) ?_
    obtain ⟨v1, qv1, h⟩ := ob h
    refine fm_iald kyf_307 F hW qv1 dX12_childrenOf_11 ?_
    refine lv_icmp_ge (tgt := 39) hx hb dX12_childrenOf_12 (by decide) (fun cc => ?_) (fun cc => ?_)
    · replace h := (if_pos cc).symm.trans h
      refine lv_iload_n hx hb dX12_childrenOf_39 rfl (lv_at hl 2 rfl) ?_
      cases h
      exact r_int F hr hW hS dX12_childrenOf_40
    · replace h := (if_neg cc).symm.trans h
      refine lv_iload_n hx hb dX12_childrenOf_15 rfl (lv_at hl 2 rfl) ?_
      refine lv_aload_n hx hb dX12_childrenOf_16 rfl (lv_at hl 0 rfl) ?_
      refine fl_get12 (v := .ref (b + 311)) kyf_306 F hW 18 (by decide) q_1489 rfl rfl dX12_childrenOf_17 ?_
      refine lv_iload_n hx hb dX12_childrenOf_20 rfl (lv_at hl 3 rfl) ?_
      obtain ⟨v2, qv2, h⟩ := ob h
      refine fm_iald kyf_311 F hW qv2 dX12_childrenOf_21 ?_
      refine lv_iload_n hx hb dX12_childrenOf_22 rfl (lv_at hl 1 rfl) ?_
      refine lv_icmp_ne (tgt := 30) hx hb dX12_childrenOf_23 (by decide) (fun cc => ?_) (fun cc => ?_)
      · replace h := (if_neg cc).symm.trans h
        refine lv_iconst (v := (0 : Int32)) hx hb dX12_childrenOf_30 (by decide) ?_
        refine lv_iadd hx hb dX12_childrenOf_31 ?_
        obtain ⟨v3, ev3⟩ : ∃ y, y = (x2 + (0 : Int32)) := ⟨_, rfl⟩
        have h := nm_at ev3 h
        rw [← ev3]
        refine lv_istore_n (lv' := [(2, .int v3), (0, .ref (b + 306)), (1, .int a1), (3, .int x3)]) hx hb dX12_childrenOf_32 rfl hl (by decide) rfl (fun ls hl => ?_)
        refine lv_iinc (v := (x3 + (1 : Int32))) (lv' := [(3, .int (x3 + (1 : Int32))), (2, .int v3), (0, .ref (b + 306)), (1, .int a1)]) hx hb dX12_childrenOf_33 hl (k := 3) rfl rfl (by decide) rfl (fun ls hl => ?_)
        refine lv_goto (tgt := 4) hx hb dX12_childrenOf_36 (by decide) ?_
        exact hk4 _ _ _ _ _ h hW hS (lv_sub hl [2, 3, 1, 0] rfl)
      · replace h := (if_pos cc).symm.trans h
        refine lv_iconst (v := (1 : Int32)) hx hb dX12_childrenOf_26 (by decide) ?_
        refine lv_goto (tgt := 31) hx hb dX12_childrenOf_27 (by decide) ?_
        refine lv_iadd hx hb dX12_childrenOf_31 ?_
        obtain ⟨v4, ev4⟩ : ∃ y, y = (x2 + (1 : Int32)) := ⟨_, rfl⟩
        have h := nm_at ev4 h
        rw [← ev4]
        refine lv_istore_n (lv' := [(2, .int v4), (0, .ref (b + 306)), (1, .int a1), (3, .int x3)]) hx hb dX12_childrenOf_32 rfl hl (by decide) rfl (fun ls hl => ?_)
        refine lv_iinc (v := (x3 + (1 : Int32))) (lv' := [(3, .int (x3 + (1 : Int32))), (2, .int v4), (0, .ref (b + 306)), (1, .int a1)]) hx hb dX12_childrenOf_33 hl (k := 3) rfl rfl (by decide) rfl (fun ls hl => ?_)
        refine lv_goto (tgt := 4) hx hb dX12_childrenOf_36 (by decide) ?_
        exact hk4 _ _ _ _ _ h hW hS (lv_sub hl [2, 3, 1, 0] rfl)
set_option maxHeartbeats 4000000 in
set_option maxRecDepth 100000 in
theorem wk_X12_childrenOf {n : Nat} {a1 : Int32} {μ : Mm} {out : Int32} (F : FX (fg G) b RX12 cX12_childrenOf 4 p s m args meth c) (hr : meth.sig.returnType = some .int) (h : sh_X12_childrenOf n a1 μ = some out) (hW : WH (fg G) b μ H) (hS : va_S (fb b) s.heap H locs) (hl : lv_has ls 4 [(0, .ref (b + 306)), (1, .int a1)]) : W p l e ({ frames := 0, cells := 0, slots := 0, locals := 0 } : Room) s m args below meth c H locs 0 0 (MQ below (QW (fg G) b μ (some (.int out))) args s 0 0 (fb b)) (F0 m 0 ls []) := by
  have hx := F.1
  have hb := F.2.1
  unfold sh_X12_childrenOf at h
  refine lv_iconst (v := (0 : Int32)) hx hb dX12_childrenOf_0 (by decide) ?_
  refine lv_istore_n (lv' := [(2, .int (0 : Int32)), (0, .ref (b + 306)), (1, .int a1)]) hx hb dX12_childrenOf_1 rfl hl (by decide) rfl (fun ls hl => ?_)
  refine lv_iconst (v := (0 : Int32)) hx hb dX12_childrenOf_2 (by decide) ?_
  refine lv_istore_n (lv' := [(3, .int (0 : Int32)), (2, .int (0 : Int32)), (0, .ref (b + 306)), (1, .int a1)]) hx hb dX12_childrenOf_3 rfl hl (by decide) rfl (fun ls hl => ?_)
  exact wk_X12_childrenOf_4 F hr n _ _ _ _ _ h hW hS (lv_sub hl [2, 3, 1, 0] rfl)
set_option maxHeartbeats 4000000 in
set_option maxRecDepth 100000 in
theorem c_X12_childrenOf {l : Launch} {G : Gt} {b : Nat} {n : Nat} {a1 : Int32} {μ : Mm} {out : Int32} (h : sh_X12_childrenOf n a1 μ = some out) : Met l yX12_childrenOf (wU (Cond.code yX12_childrenOf cX12_childrenOf 4 (some .int))) ({ frames := 0, cells := 0, slots := 0, locals := 0 } : Room) (PcW (fg G) b μ [.ref (b + 306), .int a1]) (QW (fg G) b μ (some (.int out))) 0 0 (fb b) :=
  met_of [.ref (b + 306), .int a1] (by decide) (Nat.le_of_ble_eq_true rfl) (fun F hr hW hl => wk_X12_childrenOf F hr h hW va_S.rf hl)
set_option maxHeartbeats 4000000 in
set_option maxRecDepth 100000 in
theorem k_X12_childrenOf {own : String} {nL : Nat} (F : FX (fg G) b own cc nL p s m args meth c) {n : Nat} {a1 : Int32} {μ : Mm} {out : Int32} (h : sh_X12_childrenOf n a1 μ = some out) {index : Nat} (hl : Cond.methodLink own index yX12_childrenOf ∈ TBG) (hR : 0 + 1 ≤ R.frames ∧ 8 + (4 + 11) + 0 ≤ R.locals ∧ cells ≤ R.cells ∧ slots ≤ R.slots) (hW : WH (fg G) b μ H) (hS : va_S (fb b) s.heap H locs) (hsz : ls.size = nL) (hrest : (rest.map fun v => v.category).sum ≤ 8) (hdg : decode cc pc = .ok (.invokevirtual index, 3))
    (kk : ∀ (H1 : Heap) (locs1 : List Loc), WH (fg G) b μ H1 → va_S (fb b) s.heap H1 locs1 → W p l e R s m args below meth c H1 locs1 cells slots Q (F0 m (pc + 3) ls (.int out :: rest))) : W p l e R s m args below meth c H locs cells slots Q (F0 m pc ls (.int a1 :: .ref (b + 306) :: rest)) :=
  f_callV (As := [.int a1]) (ci := 12) (c_X12_childrenOf h) ⟨rfl, rfl⟩ rfl (ky_lm kyf_306 (by decide)) (wF_12 kyf_306) q_1879 qp_89 q_14 q_1880 rfl ⟨by decide +kernel, by decide +kernel, (show (parseMethodDescriptor yX12_childrenOf.desc).map (fun d => d.parameters.length) = some 1 by decide +kernel)⟩ F hl hR hW hS hsz hrest rfl hdg kk
set_option maxHeartbeats 4000000 in
set_option maxRecDepth 100000 in
theorem wk_X12_section {n : Nat} {a1 : Int32} {a2 : Int32} {μ : Mm} {out : (Int32 × Mm)} (F : FX (fg G) b RX12 cX12_section 3 p s m args meth c) (hr : meth.sig.returnType = some .int) (h : sh_X12_section n a1 a2 μ = some out) (hW : WH (fg G) b μ H) (hS : va_S (fb b) s.heap H locs) (hl : lv_has ls 3 [(0, .ref (b + 306)), (1, .int a1), (2, .int a2)]) : W p l e ({ frames := 3, cells := 0, slots := 0, locals := 66 } : Room) s m args below meth c H locs 0 0 (MQ below (QW (fg G) b out.2 (some (.int out.1))) args s 0 0 (fb b)) (F0 m 0 ls []) := by
  have hx := F.1
  have hb := F.2.1
  unfold sh_X12_section at h
  refine lv_aload_n hx hb dX12_section_0 rfl (lv_at hl 0 rfl) ?_
  refine lv_aload_n hx hb dX12_section_1 rfl (lv_at hl 0 rfl) ?_
  refine lv_iload_n hx hb dX12_section_2 rfl (lv_at hl 1 rfl) ?_
  obtain ⟨r1, qr1, h⟩ := ob h
  refine k_X12_isSection F qr1 q_1868 ⟨Nat.le_of_ble_eq_true rfl, Nat.le_of_ble_eq_true rfl, Nat.le_of_ble_eq_true rfl, Nat.le_of_ble_eq_true rfl⟩ hW hS hl.1 (Nat.le_of_ble_eq_true rfl) dX12_section_3 (fun H locs hW hS => ?_)
  refine lv_iload_n hx hb dX12_section_6 rfl (lv_at hl 2 rfl) ?_
  refine lv_i2l hx hb dX12_section_7 rfl ?_
  refine lv_lconst (v := (0 : Int64)) hx hb dX12_section_8 (by decide) ?_
  refine lv_ldc2 hx hb F.2.2.2.1 (F.2.2.2.2.1 _ q_1872) dX12_section_9 ?_
  obtain ⟨r2, qr2, h⟩ := ob h
  refine k_X12_in F qr2 q_1643 ⟨Nat.le_of_ble_eq_true rfl, Nat.le_of_ble_eq_true rfl, Nat.le_of_ble_eq_true rfl, Nat.le_of_ble_eq_true rfl⟩ hW hS hl.1 (Nat.le_of_ble_eq_true rfl) dX12_section_12 (fun H locs hW hS => ?_)
  obtain ⟨r3, qr3, h⟩ := ob h
  refine k_X12_passes2 F qr3 q_1873 ⟨Nat.le_of_ble_eq_true rfl, Nat.le_of_ble_eq_true rfl, Nat.le_of_ble_eq_true rfl, Nat.le_of_ble_eq_true rfl⟩ hW hS hl.1 (Nat.le_of_ble_eq_true rfl) dX12_section_15 (fun H locs hW hS => ?_)
  refine lv_if_ne (tgt := 23) hx hb dX12_section_18 (by decide) (fun cc => ?_) (fun cc => ?_)
  · replace h := (if_neg cc).symm.trans h
    refine lv_iload_n hx hb dX12_section_23 rfl (lv_at hl 2 rfl) ?_
    refine lv_iconst (v := (4 : Int32)) hx hb dX12_section_24 (by decide) ?_
    refine lv_icmp_ge (tgt := 35) hx hb dX12_section_25 (by decide) (fun cc => ?_) (fun cc => ?_)
    · replace h := (if_pos cc).symm.trans h
      refine lv_aload_n hx hb dX12_section_35 rfl (lv_at hl 0 rfl) ?_
      obtain ⟨r4, qr4, h⟩ := ob h
      refine k_X12_layLabels F qr4 q_1768 ⟨Nat.le_of_ble_eq_true rfl, Nat.le_of_ble_eq_true rfl, Nat.le_of_ble_eq_true rfl, Nat.le_of_ble_eq_true rfl⟩ hW hS hl.1 (Nat.le_of_ble_eq_true rfl) dX12_section_36 (fun H locs hW hS => ?_)
      refine lv_iload_n hx hb dX12_section_39 rfl (lv_at hl 2 rfl) ?_
      refine lv_iconst (v := (4 : Int32)) hx hb dX12_section_40 (by decide) ?_
      refine lv_icmp_ne (tgt := 53) hx hb dX12_section_41 (by decide) (fun cc => ?_) (fun cc => ?_)
      · replace h := (if_neg cc).symm.trans h
        refine lv_iload_n hx hb dX12_section_53 rfl (lv_at hl 2 rfl) ?_
        refine lv_iconst (v := (5 : Int32)) hx hb dX12_section_54 (by decide) ?_
        refine lv_icmp_ne (tgt := 66) hx hb dX12_section_55 (by decide) (fun cc => ?_) (fun cc => ?_)
        · replace h := (if_neg cc).symm.trans h
          refine lv_aload_n hx hb dX12_section_66 rfl (lv_at hl 0 rfl) ?_
          refine fl_get12 (v := .ref (b + 312)) kyf_306 F hW 19 (by decide) q_1490 rfl rfl dX12_section_67 ?_
          refine lv_iload_n hx hb dX12_section_70 rfl (lv_at hl 1 rfl) ?_
          obtain ⟨v5, qv5, h⟩ := ob h
          refine fm_iald kyf_312 F hW qv5 dX12_section_71 ?_
          cases h
          exact r_int F hr hW hS dX12_section_72
        · replace h := (if_pos cc).symm.trans h
          refine lv_aload_n hx hb dX12_section_58 rfl (lv_at hl 0 rfl) ?_
          refine lv_iload_n hx hb dX12_section_59 rfl (lv_at hl 1 rfl) ?_
          obtain ⟨r6, qr6, h⟩ := ob h
          refine k_X12_childrenOf F qr6 q_1877 ⟨Nat.le_of_ble_eq_true rfl, Nat.le_of_ble_eq_true rfl, Nat.le_of_ble_eq_true rfl, Nat.le_of_ble_eq_true rfl⟩ hW hS hl.1 (Nat.le_of_ble_eq_true rfl) dX12_section_60 (fun H locs hW hS => ?_)
          refine lv_goto (tgt := 72) hx hb dX12_section_63 (by decide) ?_
          cases h
          exact r_int F hr hW hS dX12_section_72
      · replace h := (if_pos cc).symm.trans h
        refine lv_aload_n hx hb dX12_section_44 rfl (lv_at hl 0 rfl) ?_
        refine fl_get12 (v := .ref (b + 311)) kyf_306 F hW 18 (by decide) q_1489 rfl rfl dX12_section_45 ?_
        refine lv_iload_n hx hb dX12_section_48 rfl (lv_at hl 1 rfl) ?_
        obtain ⟨v7, qv7, h⟩ := ob h
        refine fm_iald kyf_311 F hW qv7 dX12_section_49 ?_
        refine lv_goto (tgt := 72) hx hb dX12_section_50 (by decide) ?_
        cases h
        exact r_int F hr hW hS dX12_section_72
    · replace h := (if_neg cc).symm.trans h
      refine lv_aload_n hx hb dX12_section_28 rfl (lv_at hl 0 rfl) ?_
      refine lv_iload_n hx hb dX12_section_29 rfl (lv_at hl 1 rfl) ?_
      refine lv_iload_n hx hb dX12_section_30 rfl (lv_at hl 2 rfl) ?_
      obtain ⟨r8, qr8, h⟩ := ob h
      refine k_X12_of F qr8 q_1735 ⟨Nat.le_of_ble_eq_true rfl, Nat.le_of_ble_eq_true rfl, Nat.le_of_ble_eq_true rfl, Nat.le_of_ble_eq_true rfl⟩ hW hS hl.1 (Nat.le_of_ble_eq_true rfl) dX12_section_31 (fun H locs hW hS => ?_)
      cases h
      exact r_int F hr hW hS dX12_section_34
  · replace h := (if_pos cc).symm.trans h
    refine lv_iconst (v := (0 : Int32)) hx hb dX12_section_21 (by decide) ?_
    cases h
    exact r_int F hr hW hS dX12_section_22
set_option maxHeartbeats 4000000 in
set_option maxRecDepth 100000 in
theorem c_X12_section {l : Launch} {G : Gt} {b : Nat} {n : Nat} {a1 : Int32} {a2 : Int32} {μ : Mm} {out : (Int32 × Mm)} (h : sh_X12_section n a1 a2 μ = some out) : Met l yX12_section (wU (Cond.code yX12_section cX12_section 3 (some .int))) ({ frames := 3, cells := 0, slots := 0, locals := 66 } : Room) (PcW (fg G) b μ [.ref (b + 306), .int a1, .int a2]) (QW (fg G) b out.2 (some (.int out.1))) 0 0 (fb b) :=
  met_of [.ref (b + 306), .int a1, .int a2] (by decide) (Nat.le_of_ble_eq_true rfl) (fun F hr hW hl => wk_X12_section F hr h hW va_S.rf hl)
set_option maxHeartbeats 4000000 in
set_option maxRecDepth 100000 in
theorem k_X12_section {own : String} {nL : Nat} (F : FX (fg G) b own cc nL p s m args meth c) {n : Nat} {a1 : Int32} {a2 : Int32} {μ : Mm} {out : (Int32 × Mm)} (h : sh_X12_section n a1 a2 μ = some out) {index : Nat} (hl : Cond.methodLink own index yX12_section ∈ TBG) (hR : 3 + 1 ≤ R.frames ∧ 8 + (3 + 11) + 66 ≤ R.locals ∧ cells ≤ R.cells ∧ slots ≤ R.slots) (hW : WH (fg G) b μ H) (hS : va_S (fb b) s.heap H locs) (hsz : ls.size = nL) (hrest : (rest.map fun v => v.category).sum ≤ 8) (hdg : decode cc pc = .ok (.invokevirtual index, 3))
    (kk : ∀ (H1 : Heap) (locs1 : List Loc), WH (fg G) b out.2 H1 → va_S (fb b) s.heap H1 locs1 → W p l e R s m args below meth c H1 locs1 cells slots Q (F0 m (pc + 3) ls (.int out.1 :: rest))) : W p l e R s m args below meth c H locs cells slots Q (F0 m pc ls (.int a2 :: .int a1 :: .ref (b + 306) :: rest)) :=
  f_callV (As := [.int a1, .int a2]) (ci := 12) (c_X12_section h) ⟨rfl, rfl⟩ rfl (ky_lm kyf_306 (by decide)) (wF_12 kyf_306) q_1865 q_1866 q_14 q_1867 rfl ⟨by decide +kernel, by decide +kernel, (show (parseMethodDescriptor yX12_section.desc).map (fun d => d.parameters.length) = some 2 by decide +kernel)⟩ F hl hR hW hS hsz hrest rfl hdg kk
set_option maxHeartbeats 4000000 in
set_option maxRecDepth 100000 in
theorem wk_X12_titleOf_11 {n : Nat} {a1 : Int32} {out : (Int32 × Mm)} (F : FX (fg G) b RX12 cX12_titleOf 4 p s m args meth c) (hr : meth.sig.returnType = some .int) : ∀ (f : Nat) (x2 : Int32) (x3 : Int32) (μ : Mm) (H : Heap) (locs : List Loc) (ls : Array Slot), sh_X12_titleOf_11 n a1 f x2 x3 μ = some out → WH (fg G) b μ H → va_S (fb b) s.heap H locs → lv_has ls 4 [(0, .ref (b + 306)), (1, .int a1), (2, .int x2), (3, .int x3)] → W p l e ({ frames := 5, cells := 0, slots := 0, locals := 112 } : Room) s m args below meth c H locs 0 0 (MQ below (QW (fg G) b out.2 (some (.int out.1))) args s 0 0 (fb b)) (F0 m 11 ls []) := by
  have hx := F.1
  have hb := F.2.1
  intro f
  induction f with
  | zero =>
    intro _ _ _ _ _ _ h
    rw [sh_X12_titleOf_11] at h
    cases h
  | succ f ih =>
    intro x2 x3 μ H locs ls h hW hS hl
    rw [sh_X12_titleOf_11] at h
    have hk11 := ih
    refine lv_iload_n hx hb dX12_titleOf_11 rfl (lv_at hl 3 rfl) ?_
    refine lv_aload_n hx hb dX12_titleOf_12 rfl (lv_at hl 0 rfl) ?_
    refine lv_iload_n hx hb dX12_titleOf_13 rfl (lv_at hl 1 rfl) ?_
    refine lv_iconst (v := (3 : Int32)) hx hb dX12_titleOf_14 (by decide) ?_
    obtain ⟨r3, qr3, h⟩ := ob h
    refine k_X12_of F qr3 q_1735 ⟨Nat.le_of_ble_eq_true rfl, Nat.le_of_ble_eq_true rfl, Nat.le_of_ble_eq_true rfl, Nat.le_of_ble_eq_true rfl⟩ hW hS hl.1 (Nat.le_of_ble_eq_true rfl) dX12_titleOf_15 (fun H locs hW hS => ?_)
    refine lv_icmp_ge (tgt := 36) hx hb dX12_titleOf_18 (by decide) (fun cc => ?_) (fun cc => ?_)
    · replace h := (if_pos cc).symm.trans h
      refine lv_iload_n hx hb dX12_titleOf_36 rfl (lv_at hl 2 rfl) ?_
      cases h
      exact r_int F hr hW hS dX12_titleOf_37
    · replace h := (if_neg cc).symm.trans h
      refine lv_iload_n hx hb dX12_titleOf_21 rfl (lv_at hl 2 rfl) ?_
      refine lv_aload_n hx hb dX12_titleOf_22 rfl (lv_at hl 0 rfl) ?_
      refine lv_iload_n hx hb dX12_titleOf_23 rfl (lv_at hl 1 rfl) ?_
      refine lv_iload_n hx hb dX12_titleOf_24 rfl (lv_at hl 3 rfl) ?_
      obtain ⟨r4, qr4, h⟩ := ob h
      refine k_X12_tokenWidth F qr4 q_1828 ⟨Nat.le_of_ble_eq_true rfl, Nat.le_of_ble_eq_true rfl, Nat.le_of_ble_eq_true rfl, Nat.le_of_ble_eq_true rfl⟩ hW hS hl.1 (Nat.le_of_ble_eq_true rfl) dX12_titleOf_25 (fun H locs hW hS => ?_)
      refine lv_iadd hx hb dX12_titleOf_28 ?_
      obtain ⟨v5, ev5⟩ : ∃ y, y = (x2 + r4.1) := ⟨_, rfl⟩
      have h := nm_at ev5 h
      rw [← ev5]
      refine lv_istore_n (lv' := [(2, .int v5), (0, .ref (b + 306)), (1, .int a1), (3, .int x3)]) hx hb dX12_titleOf_29 rfl hl (by decide) rfl (fun ls hl => ?_)
      refine lv_iinc (v := (x3 + (1 : Int32))) (lv' := [(3, .int (x3 + (1 : Int32))), (2, .int v5), (0, .ref (b + 306)), (1, .int a1)]) hx hb dX12_titleOf_30 hl (k := 3) rfl rfl (by decide) rfl (fun ls hl => ?_)
      refine lv_goto (tgt := 11) hx hb dX12_titleOf_33 (by decide) ?_
      exact hk11 _ _ _ _ _ _ h hW hS (lv_sub hl [2, 3, 1, 0] rfl)
set_option maxHeartbeats 4000000 in
set_option maxRecDepth 100000 in
theorem wk_X12_titleOf {n : Nat} {a1 : Int32} {μ : Mm} {out : (Int32 × Mm)} (F : FX (fg G) b RX12 cX12_titleOf 4 p s m args meth c) (hr : meth.sig.returnType = some .int) (h : sh_X12_titleOf n a1 μ = some out) (hW : WH (fg G) b μ H) (hS : va_S (fb b) s.heap H locs) (hl : lv_has ls 4 [(0, .ref (b + 306)), (1, .int a1)]) : W p l e ({ frames := 5, cells := 0, slots := 0, locals := 112 } : Room) s m args below meth c H locs 0 0 (MQ below (QW (fg G) b out.2 (some (.int out.1))) args s 0 0 (fb b)) (F0 m 0 ls []) := by
  have hx := F.1
  have hb := F.2.1
  unfold sh_X12_titleOf at h
  refine lv_aload_n hx hb dX12_titleOf_0 rfl (lv_at hl 0 rfl) ?_
  refine lv_iload_n hx hb dX12_titleOf_1 rfl (lv_at hl 1 rfl) ?_
  refine lv_iconst (v := (3 : Int32)) hx hb dX12_titleOf_2 (by decide) ?_
  obtain ⟨r1, qr1, h⟩ := ob h
  refine k_X12_of F qr1 q_1735 ⟨Nat.le_of_ble_eq_true rfl, Nat.le_of_ble_eq_true rfl, Nat.le_of_ble_eq_true rfl, Nat.le_of_ble_eq_true rfl⟩ hW hS hl.1 (Nat.le_of_ble_eq_true rfl) dX12_titleOf_3 (fun H locs hW hS => ?_)
  refine lv_iconst (v := (1 : Int32)) hx hb dX12_titleOf_6 (by decide) ?_
  refine lv_isub hx hb dX12_titleOf_7 ?_
  obtain ⟨v2, ev2⟩ : ∃ y, y = (r1 - (1 : Int32)) := ⟨_, rfl⟩
  have h := nm_at ev2 h
  rw [← ev2]
  refine lv_istore_n (lv' := [(2, .int v2), (0, .ref (b + 306)), (1, .int a1)]) hx hb dX12_titleOf_8 rfl hl (by decide) rfl (fun ls hl => ?_)
  refine lv_iconst (v := (0 : Int32)) hx hb dX12_titleOf_9 (by decide) ?_
  refine lv_istore_n (lv' := [(3, .int (0 : Int32)), (2, .int v2), (0, .ref (b + 306)), (1, .int a1)]) hx hb dX12_titleOf_10 rfl hl (by decide) rfl (fun ls hl => ?_)
  exact wk_X12_titleOf_11 F hr n _ _ _ _ _ _ h hW hS (lv_sub hl [2, 3, 1, 0] rfl)
set_option maxHeartbeats 4000000 in
set_option maxRecDepth 100000 in
theorem c_X12_titleOf {l : Launch} {G : Gt} {b : Nat} {n : Nat} {a1 : Int32} {μ : Mm} {out : (Int32 × Mm)} (h : sh_X12_titleOf n a1 μ = some out) : Met l yX12_titleOf (wU (Cond.code yX12_titleOf cX12_titleOf 4 (some .int))) ({ frames := 5, cells := 0, slots := 0, locals := 112 } : Room) (PcW (fg G) b μ [.ref (b + 306), .int a1]) (QW (fg G) b out.2 (some (.int out.1))) 0 0 (fb b) :=
  met_of [.ref (b + 306), .int a1] (by decide) (Nat.le_of_ble_eq_true rfl) (fun F hr hW hl => wk_X12_titleOf F hr h hW va_S.rf hl)
set_option maxHeartbeats 4000000 in
set_option maxRecDepth 100000 in
theorem k_X12_titleOf {own : String} {nL : Nat} (F : FX (fg G) b own cc nL p s m args meth c) {n : Nat} {a1 : Int32} {μ : Mm} {out : (Int32 × Mm)} (h : sh_X12_titleOf n a1 μ = some out) {index : Nat} (hl : Cond.methodLink own index yX12_titleOf ∈ TBG) (hR : 5 + 1 ≤ R.frames ∧ 8 + (4 + 11) + 112 ≤ R.locals ∧ cells ≤ R.cells ∧ slots ≤ R.slots) (hW : WH (fg G) b μ H) (hS : va_S (fb b) s.heap H locs) (hsz : ls.size = nL) (hrest : (rest.map fun v => v.category).sum ≤ 8) (hdg : decode cc pc = .ok (.invokevirtual index, 3))
    (kk : ∀ (H1 : Heap) (locs1 : List Loc), WH (fg G) b out.2 H1 → va_S (fb b) s.heap H1 locs1 → W p l e R s m args below meth c H1 locs1 cells slots Q (F0 m (pc + 3) ls (.int out.1 :: rest))) : W p l e R s m args below meth c H locs cells slots Q (F0 m pc ls (.int a1 :: .ref (b + 306) :: rest)) :=
  f_callV (As := [.int a1]) (ci := 12) (c_X12_titleOf h) ⟨rfl, rfl⟩ rfl (ky_lm kyf_306 (by decide)) (wF_12 kyf_306) q_1887 qp_90 q_14 q_1888 rfl ⟨by decide +kernel, by decide +kernel, (show (parseMethodDescriptor yX12_titleOf.desc).map (fun d => d.parameters.length) = some 1 by decide +kernel)⟩ F hl hR hW hS hsz hrest rfl hdg kk
set_option maxHeartbeats 4000000 in
set_option maxRecDepth 100000 in
theorem wk_X12_titleWidth {n : Nat} {a1 : Int32} {μ : Mm} {out : (Int32 × Mm)} (F : FX (fg G) b RX12 cX12_titleWidth 2 p s m args meth c) (hr : meth.sig.returnType = some .int) (h : sh_X12_titleWidth n a1 μ = some out) (hW : WH (fg G) b μ H) (hS : va_S (fb b) s.heap H locs) (hl : lv_has ls 2 [(0, .ref (b + 306)), (1, .int a1)]) : W p l e ({ frames := 6, cells := 0, slots := 0, locals := 135 } : Room) s m args below meth c H locs 0 0 (MQ below (QW (fg G) b out.2 (some (.int out.1))) args s 0 0 (fb b)) (F0 m 0 ls []) := by
  have hx := F.1
  have hb := F.2.1
  unfold sh_X12_titleWidth at h
  refine lv_aload_n hx hb dX12_titleWidth_0 rfl (lv_at hl 0 rfl) ?_
  obtain ⟨r1, qr1, h⟩ := ob h
  refine k_X12_layLabels F qr1 q_1768 ⟨Nat.le_of_ble_eq_true rfl, Nat.le_of_ble_eq_true rfl, Nat.le_of_ble_eq_true rfl, Nat.le_of_ble_eq_true rfl⟩ hW hS hl.1 (Nat.le_of_ble_eq_true rfl) dX12_titleWidth_1 (fun H locs hW hS => ?_)
  refine lv_aload_n hx hb dX12_titleWidth_4 rfl (lv_at hl 0 rfl) ?_
  refine lv_aload_n hx hb dX12_titleWidth_5 rfl (lv_at hl 0 rfl) ?_
  refine lv_iload_n hx hb dX12_titleWidth_6 rfl (lv_at hl 1 rfl) ?_
  obtain ⟨r2, qr2, h⟩ := ob h
  refine k_X12_isSection F qr2 q_1868 ⟨Nat.le_of_ble_eq_true rfl, Nat.le_of_ble_eq_true rfl, Nat.le_of_ble_eq_true rfl, Nat.le_of_ble_eq_true rfl⟩ hW hS hl.1 (Nat.le_of_ble_eq_true rfl) dX12_titleWidth_7 (fun H locs hW hS => ?_)
  obtain ⟨r3, qr3, h⟩ := ob h
  refine k_X12_passes F qr3 q_1627 ⟨Nat.le_of_ble_eq_true rfl, Nat.le_of_ble_eq_true rfl, Nat.le_of_ble_eq_true rfl, Nat.le_of_ble_eq_true rfl⟩ hW hS hl.1 (Nat.le_of_ble_eq_true rfl) dX12_titleWidth_10 (fun H locs hW hS => ?_)
  refine lv_if_eq (tgt := 24) hx hb dX12_titleWidth_13 (by decide) (fun cc => ?_) (fun cc => ?_)
  · replace h := (if_pos cc).symm.trans h
    refine lv_iconst (v := (0 : Int32)) hx hb dX12_titleWidth_24 (by decide) ?_
    cases h
    exact r_int F hr hW hS dX12_titleWidth_25
  · replace h := (if_neg cc).symm.trans h
    refine lv_aload_n hx hb dX12_titleWidth_16 rfl (lv_at hl 0 rfl) ?_
    refine lv_iload_n hx hb dX12_titleWidth_17 rfl (lv_at hl 1 rfl) ?_
    obtain ⟨r4, qr4, h⟩ := ob h
    refine k_X12_titleOf F qr4 q_1885 ⟨Nat.le_of_ble_eq_true rfl, Nat.le_of_ble_eq_true rfl, Nat.le_of_ble_eq_true rfl, Nat.le_of_ble_eq_true rfl⟩ hW hS hl.1 (Nat.le_of_ble_eq_true rfl) dX12_titleWidth_18 (fun H locs hW hS => ?_)
    refine lv_goto (tgt := 25) hx hb dX12_titleWidth_21 (by decide) ?_
    cases h
    exact r_int F hr hW hS dX12_titleWidth_25
set_option maxHeartbeats 4000000 in
set_option maxRecDepth 100000 in
theorem c_X12_titleWidth {l : Launch} {G : Gt} {b : Nat} {n : Nat} {a1 : Int32} {μ : Mm} {out : (Int32 × Mm)} (h : sh_X12_titleWidth n a1 μ = some out) : Met l yX12_titleWidth (wU (Cond.code yX12_titleWidth cX12_titleWidth 2 (some .int))) ({ frames := 6, cells := 0, slots := 0, locals := 135 } : Room) (PcW (fg G) b μ [.ref (b + 306), .int a1]) (QW (fg G) b out.2 (some (.int out.1))) 0 0 (fb b) :=
  met_of [.ref (b + 306), .int a1] (by decide) (Nat.le_of_ble_eq_true rfl) (fun F hr hW hl => wk_X12_titleWidth F hr h hW va_S.rf hl)
set_option maxHeartbeats 4000000 in
set_option maxRecDepth 100000 in
theorem k_X12_titleWidth {own : String} {nL : Nat} (F : FX (fg G) b own cc nL p s m args meth c) {n : Nat} {a1 : Int32} {μ : Mm} {out : (Int32 × Mm)} (h : sh_X12_titleWidth n a1 μ = some out) {index : Nat} (hl : Cond.methodLink own index yX12_titleWidth ∈ TBG) (hR : 6 + 1 ≤ R.frames ∧ 8 + (2 + 11) + 135 ≤ R.locals ∧ cells ≤ R.cells ∧ slots ≤ R.slots) (hW : WH (fg G) b μ H) (hS : va_S (fb b) s.heap H locs) (hsz : ls.size = nL) (hrest : (rest.map fun v => v.category).sum ≤ 8) (hdg : decode cc pc = .ok (.invokevirtual index, 3))
    (kk : ∀ (H1 : Heap) (locs1 : List Loc), WH (fg G) b out.2 H1 → va_S (fb b) s.heap H1 locs1 → W p l e R s m args below meth c H1 locs1 cells slots Q (F0 m (pc + 3) ls (.int out.1 :: rest))) : W p l e R s m args below meth c H locs cells slots Q (F0 m pc ls (.int a1 :: .ref (b + 306) :: rest)) :=
  f_callV (As := [.int a1]) (ci := 12) (c_X12_titleWidth h) ⟨rfl, rfl⟩ rfl (ky_lm kyf_306 (by decide)) (wF_12 kyf_306) q_1882 q_1883 q_14 q_1884 rfl ⟨by decide +kernel, by decide +kernel, (show (parseMethodDescriptor yX12_titleWidth.desc).map (fun d => d.parameters.length) = some 1 by decide +kernel)⟩ F hl hR hW hS hsz hrest rfl hdg kk
set_option maxHeartbeats 4000000 in
set_option maxRecDepth 100000 in
theorem wk_X12_asks {n : Nat} {a1 : Int32} {μ : Mm} {out : (Int32 × Mm)} (F : FX (fg G) b RX12 cX12_asks 2 p s m args meth c) (hr : meth.sig.returnType = some .boolean) (h : sh_X12_asks n a1 μ = some out) (hW : WH (fg G) b μ H) (hS : va_S (fb b) s.heap H locs) (hl : lv_has ls 2 [(0, .ref (b + 306)), (1, .int a1)]) : W p l e ({ frames := 9, cells := 0, slots := 0, locals := 205 } : Room) s m args below meth c H locs 0 0 (MQ below (QW (fg G) b out.2 (some (.int out.1))) args s 0 0 (fb b)) (F0 m 0 ls []) := by
  have hx := F.1
  have hb := F.2.1
  unfold sh_X12_asks at h
  refine lv_aload_n hx hb dX12_asks_0 rfl (lv_at hl 0 rfl) ?_
  refine lv_aload_n hx hb dX12_asks_1 rfl (lv_at hl 0 rfl) ?_
  refine lv_iload_n hx hb dX12_asks_2 rfl (lv_at hl 1 rfl) ?_
  obtain ⟨r1, qr1, h⟩ := ob h
  refine k_X12_isSection F qr1 q_1868 ⟨Nat.le_of_ble_eq_true rfl, Nat.le_of_ble_eq_true rfl, Nat.le_of_ble_eq_true rfl, Nat.le_of_ble_eq_true rfl⟩ hW hS hl.1 (Nat.le_of_ble_eq_true rfl) dX12_asks_3 (fun H locs hW hS => ?_)
  obtain ⟨r2, qr2, h⟩ := ob h
  refine k_X12_passes F qr2 q_1627 ⟨Nat.le_of_ble_eq_true rfl, Nat.le_of_ble_eq_true rfl, Nat.le_of_ble_eq_true rfl, Nat.le_of_ble_eq_true rfl⟩ hW hS hl.1 (Nat.le_of_ble_eq_true rfl) dX12_asks_6 (fun H locs hW hS => ?_)
  refine lv_if_ne (tgt := 14) hx hb dX12_asks_9 (by decide) (fun cc => ?_) (fun cc => ?_)
  · replace h := (if_neg cc).symm.trans h
    refine lv_aload_n hx hb dX12_asks_14 rfl (lv_at hl 0 rfl) ?_
    obtain ⟨r3, qr3, h⟩ := ob h
    refine k_X12_lay F qr3 q_1764 ⟨Nat.le_of_ble_eq_true rfl, Nat.le_of_ble_eq_true rfl, Nat.le_of_ble_eq_true rfl, Nat.le_of_ble_eq_true rfl⟩ hW hS hl.1 (Nat.le_of_ble_eq_true rfl) dX12_asks_15 (fun H locs hW hS => ?_)
    refine lv_iconst (v := (1 : Int32)) hx hb dX12_asks_18 (by decide) ?_
    cases h
    exact r_bool F hr (Or.inr rfl) hW hS dX12_asks_19
  · replace h := (if_pos cc).symm.trans h
    refine lv_iconst (v := (0 : Int32)) hx hb dX12_asks_12 (by decide) ?_
    cases h
    exact r_bool F hr (Or.inl rfl) hW hS dX12_asks_13
set_option maxHeartbeats 4000000 in
set_option maxRecDepth 100000 in
theorem c_X12_asks {l : Launch} {G : Gt} {b : Nat} {n : Nat} {a1 : Int32} {μ : Mm} {out : (Int32 × Mm)} (h : sh_X12_asks n a1 μ = some out) : Met l yX12_asks (wU (Cond.code yX12_asks cX12_asks 2 (some .boolean))) ({ frames := 9, cells := 0, slots := 0, locals := 205 } : Room) (PcW (fg G) b μ [.ref (b + 306), .int a1]) (QW (fg G) b out.2 (some (.int out.1))) 0 0 (fb b) :=
  met_of [.ref (b + 306), .int a1] (by decide) (Nat.le_of_ble_eq_true rfl) (fun F hr hW hl => wk_X12_asks F hr h hW va_S.rf hl)
set_option maxHeartbeats 4000000 in
set_option maxRecDepth 100000 in
theorem k_X12_asks {own : String} {nL : Nat} (F : FX (fg G) b own cc nL p s m args meth c) {n : Nat} {a1 : Int32} {μ : Mm} {out : (Int32 × Mm)} (h : sh_X12_asks n a1 μ = some out) {index : Nat} (hl : Cond.methodLink own index yX12_asks ∈ TBG) (hR : 9 + 1 ≤ R.frames ∧ 8 + (2 + 11) + 205 ≤ R.locals ∧ cells ≤ R.cells ∧ slots ≤ R.slots) (hW : WH (fg G) b μ H) (hS : va_S (fb b) s.heap H locs) (hsz : ls.size = nL) (hrest : (rest.map fun v => v.category).sum ≤ 8) (hdg : decode cc pc = .ok (.invokevirtual index, 3))
    (kk : ∀ (H1 : Heap) (locs1 : List Loc), WH (fg G) b out.2 H1 → va_S (fb b) s.heap H1 locs1 → W p l e R s m args below meth c H1 locs1 cells slots Q (F0 m (pc + 3) ls (.int out.1 :: rest))) : W p l e R s m args below meth c H locs cells slots Q (F0 m pc ls (.int a1 :: .ref (b + 306) :: rest)) :=
  f_callV (As := [.int a1]) (ci := 12) (c_X12_asks h) ⟨rfl, rfl⟩ rfl (ky_lm kyf_306 (by decide)) (wF_12 kyf_306) q_1895 qp_91 q_14 q_1896 rfl ⟨by decide +kernel, by decide +kernel, (show (parseMethodDescriptor yX12_asks.desc).map (fun d => d.parameters.length) = some 1 by decide +kernel)⟩ F hl hR hW hS hsz hrest rfl hdg kk
set_option maxHeartbeats 4000000 in
set_option maxRecDepth 100000 in
theorem wk_X12_page {n : Nat} {a1 : Int32} {μ : Mm} {out : (Int32 × Mm)} (F : FX (fg G) b RX12 cX12_page 2 p s m args meth c) (hr : meth.sig.returnType = some .int) (h : sh_X12_page n a1 μ = some out) (hW : WH (fg G) b μ H) (hS : va_S (fb b) s.heap H locs) (hl : lv_has ls 2 [(0, .ref (b + 306)), (1, .int a1)]) : W p l e ({ frames := 10, cells := 0, slots := 0, locals := 226 } : Room) s m args below meth c H locs 0 0 (MQ below (QW (fg G) b out.2 (some (.int out.1))) args s 0 0 (fb b)) (F0 m 0 ls []) := by
  have hx := F.1
  have hb := F.2.1
  unfold sh_X12_page at h
  refine lv_aload_n hx hb dX12_page_0 rfl (lv_at hl 0 rfl) ?_
  refine lv_iload_n hx hb dX12_page_1 rfl (lv_at hl 1 rfl) ?_
  obtain ⟨r1, qr1, h⟩ := ob h
  refine k_X12_asks F qr1 q_1893 ⟨Nat.le_of_ble_eq_true rfl, Nat.le_of_ble_eq_true rfl, Nat.le_of_ble_eq_true rfl, Nat.le_of_ble_eq_true rfl⟩ hW hS hl.1 (Nat.le_of_ble_eq_true rfl) dX12_page_2 (fun H locs hW hS => ?_)
  refine lv_if_eq (tgt := 17) hx hb dX12_page_5 (by decide) (fun cc => ?_) (fun cc => ?_)
  · replace h := (if_pos cc).symm.trans h
    refine lv_iconst (v := (0 : Int32)) hx hb dX12_page_17 (by decide) ?_
    cases h
    exact r_int F hr hW hS dX12_page_18
  · replace h := (if_neg cc).symm.trans h
    refine lv_aload_n hx hb dX12_page_8 rfl (lv_at hl 0 rfl) ?_
    refine fl_get12 (v := .ref (b + 314)) kyf_306 F hW 21 (by decide) q_1492 rfl rfl dX12_page_9 ?_
    refine lv_iload_n hx hb dX12_page_12 rfl (lv_at hl 1 rfl) ?_
    obtain ⟨v2, qv2, h⟩ := ob h
    refine fm_iald kyf_314 F hW qv2 dX12_page_13 ?_
    refine lv_goto (tgt := 18) hx hb dX12_page_14 (by decide) ?_
    cases h
    exact r_int F hr hW hS dX12_page_18
set_option maxHeartbeats 4000000 in
set_option maxRecDepth 100000 in
theorem c_X12_page {l : Launch} {G : Gt} {b : Nat} {n : Nat} {a1 : Int32} {μ : Mm} {out : (Int32 × Mm)} (h : sh_X12_page n a1 μ = some out) : Met l yX12_page (wU (Cond.code yX12_page cX12_page 2 (some .int))) ({ frames := 10, cells := 0, slots := 0, locals := 226 } : Room) (PcW (fg G) b μ [.ref (b + 306), .int a1]) (QW (fg G) b out.2 (some (.int out.1))) 0 0 (fb b) :=
  met_of [.ref (b + 306), .int a1] (by decide) (Nat.le_of_ble_eq_true rfl) (fun F hr hW hl => wk_X12_page F hr h hW va_S.rf hl)
set_option maxHeartbeats 4000000 in
set_option maxRecDepth 100000 in
theorem k_X12_page {own : String} {nL : Nat} (F : FX (fg G) b own cc nL p s m args meth c) {n : Nat} {a1 : Int32} {μ : Mm} {out : (Int32 × Mm)} (h : sh_X12_page n a1 μ = some out) {index : Nat} (hl : Cond.methodLink own index yX12_page ∈ TBG) (hR : 10 + 1 ≤ R.frames ∧ 8 + (2 + 11) + 226 ≤ R.locals ∧ cells ≤ R.cells ∧ slots ≤ R.slots) (hW : WH (fg G) b μ H) (hS : va_S (fb b) s.heap H locs) (hsz : ls.size = nL) (hrest : (rest.map fun v => v.category).sum ≤ 8) (hdg : decode cc pc = .ok (.invokevirtual index, 3))
    (kk : ∀ (H1 : Heap) (locs1 : List Loc), WH (fg G) b out.2 H1 → va_S (fb b) s.heap H1 locs1 → W p l e R s m args below meth c H1 locs1 cells slots Q (F0 m (pc + 3) ls (.int out.1 :: rest))) : W p l e R s m args below meth c H locs cells slots Q (F0 m pc ls (.int a1 :: .ref (b + 306) :: rest)) :=
  f_callV (As := [.int a1]) (ci := 12) (c_X12_page h) ⟨rfl, rfl⟩ rfl (ky_lm kyf_306 (by decide)) (wF_12 kyf_306) q_1890 q_1891 q_14 q_1892 rfl ⟨by decide +kernel, by decide +kernel, (show (parseMethodDescriptor yX12_page.desc).map (fun d => d.parameters.length) = some 1 by decide +kernel)⟩ F hl hR hW hS hsz hrest rfl hdg kk
end G151
