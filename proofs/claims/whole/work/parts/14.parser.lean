section G14
variable {p : Program} {l : Launch} {e : Env} {R : Room} {s : State} {m : MethodId} {args : Array Value} {below : List Frame} {meth : Method} {c : Code} {H : Heap} {locs : List Loc} {cells slots : Nat} {Q : State → Prop}
variable {cc : ByteArray} {pc : Nat} {ls : Array Slot} {rest : List Value} {G : Gt} {b : Nat}

set_option maxHeartbeats 4000000 in
set_option maxRecDepth 100000 in
theorem wk_X4_kindOf_28 {a0 : Int32} {μ : Mm} {out : Int32} (F : FX G b RX4 cX4_kindOf 1 p s m args meth c) (hr : meth.sig.returnType = some .int) (h : sh_X4_kindOf_28 a0 μ = some out) (hW : WH G b μ H) (hS : va_S (fb b) s.heap H locs) (hl : lv_has ls 1 [(0, .int a0)]) : W p l e ({ frames := 0, cells := 0, slots := 0, locals := 0 } : Room) s m args below meth c H locs 0 0 (MQ below (QW G b μ (some (.int out))) args s 0 0 (fb b)) (F0 m 28 ls []) := by
  have hx := F.1
  have hb := F.2.1
  unfold sh_X4_kindOf_28 at h
  refine lv_iload_n hx hb dX4_kindOf_28 rfl (lv_at hl 0 rfl) ?_
  refine lv_bipush (v := (32 : Int32)) hx hb dX4_kindOf_29 (by decide) ?_
  refine lv_icmp_eq (tgt := 40) hx hb dX4_kindOf_31 (by decide) (fun cc => ?_) (fun cc => ?_)
  · replace h := (if_pos cc).symm.trans h
    refine lv_iconst (v := (4 : Int32)) hx hb dX4_kindOf_40 (by decide) ?_
    refine lv_goto (tgt := 45) hx hb dX4_kindOf_41 (by decide) ?_
    cases h
    exact r_int F hr hW hS dX4_kindOf_45
  · replace h := (if_neg cc).symm.trans h
    refine lv_iload_n hx hb dX4_kindOf_34 rfl (lv_at hl 0 rfl) ?_
    refine lv_bipush (v := (10 : Int32)) hx hb dX4_kindOf_35 (by decide) ?_
    refine lv_icmp_ne (tgt := 44) hx hb dX4_kindOf_37 (by decide) (fun cc => ?_) (fun cc => ?_)
    · replace h := (if_neg cc).symm.trans h
      refine lv_iconst (v := (3 : Int32)) hx hb dX4_kindOf_44 (by decide) ?_
      cases h
      exact r_int F hr hW hS dX4_kindOf_45
    · replace h := (if_pos cc).symm.trans h
      refine lv_iconst (v := (4 : Int32)) hx hb dX4_kindOf_40 (by decide) ?_
      refine lv_goto (tgt := 45) hx hb dX4_kindOf_41 (by decide) ?_
      cases h
      exact r_int F hr hW hS dX4_kindOf_45
set_option maxHeartbeats 4000000 in
set_option maxRecDepth 100000 in
theorem wk_X4_kindOf_14 {a0 : Int32} {μ : Mm} {out : Int32} (F : FX G b RX4 cX4_kindOf 1 p s m args meth c) (hr : meth.sig.returnType = some .int) (h : sh_X4_kindOf_14 a0 μ = some out) (hW : WH G b μ H) (hS : va_S (fb b) s.heap H locs) (hl : lv_has ls 1 [(0, .int a0)]) : W p l e ({ frames := 0, cells := 0, slots := 0, locals := 0 } : Room) s m args below meth c H locs 0 0 (MQ below (QW G b μ (some (.int out))) args s 0 0 (fb b)) (F0 m 14 ls []) := by
  have hx := F.1
  have hb := F.2.1
  unfold sh_X4_kindOf_14 at h
  refine lv_iload_n hx hb dX4_kindOf_14 rfl (lv_at hl 0 rfl) ?_
  refine lv_bipush (v := (48 : Int32)) hx hb dX4_kindOf_15 (by decide) ?_
  refine lv_icmp_lt (tgt := 28) hx hb dX4_kindOf_17 (by decide) (fun cc => ?_) (fun cc => ?_)
  · replace h := (if_pos cc).symm.trans h
    exact wk_X4_kindOf_28 F hr h hW hS (lv_sub hl [0] rfl)
  · replace h := (if_neg cc).symm.trans h
    refine lv_iload_n hx hb dX4_kindOf_20 rfl (lv_at hl 0 rfl) ?_
    refine lv_bipush (v := (57 : Int32)) hx hb dX4_kindOf_21 (by decide) ?_
    refine lv_icmp_gt (tgt := 28) hx hb dX4_kindOf_23 (by decide) (fun cc => ?_) (fun cc => ?_)
    · replace h := (if_pos cc).symm.trans h
      exact wk_X4_kindOf_28 F hr h hW hS (lv_sub hl [0] rfl)
    · replace h := (if_neg cc).symm.trans h
      refine lv_iconst (v := (2 : Int32)) hx hb dX4_kindOf_26 (by decide) ?_
      cases h
      exact r_int F hr hW hS dX4_kindOf_27
set_option maxHeartbeats 4000000 in
set_option maxRecDepth 100000 in
theorem wk_X4_kindOf {a0 : Int32} {μ : Mm} {out : Int32} (F : FX G b RX4 cX4_kindOf 1 p s m args meth c) (hr : meth.sig.returnType = some .int) (h : sh_X4_kindOf a0 μ = some out) (hW : WH G b μ H) (hS : va_S (fb b) s.heap H locs) (hl : lv_has ls 1 [(0, .int a0)]) : W p l e ({ frames := 0, cells := 0, slots := 0, locals := 0 } : Room) s m args below meth c H locs 0 0 (MQ below (QW G b μ (some (.int out))) args s 0 0 (fb b)) (F0 m 0 ls []) := by
  have hx := F.1
  have hb := F.2.1
  unfold sh_X4_kindOf at h
  refine lv_iload_n hx hb dX4_kindOf_0 rfl (lv_at hl 0 rfl) ?_
  refine lv_bipush (v := (97 : Int32)) hx hb dX4_kindOf_1 (by decide) ?_
  refine lv_icmp_lt (tgt := 14) hx hb dX4_kindOf_3 (by decide) (fun cc => ?_) (fun cc => ?_)
  · replace h := (if_pos cc).symm.trans h
    exact wk_X4_kindOf_14 F hr h hW hS (lv_sub hl [0] rfl)
  · replace h := (if_neg cc).symm.trans h
    refine lv_iload_n hx hb dX4_kindOf_6 rfl (lv_at hl 0 rfl) ?_
    refine lv_bipush (v := (122 : Int32)) hx hb dX4_kindOf_7 (by decide) ?_
    refine lv_icmp_gt (tgt := 14) hx hb dX4_kindOf_9 (by decide) (fun cc => ?_) (fun cc => ?_)
    · replace h := (if_pos cc).symm.trans h
      exact wk_X4_kindOf_14 F hr h hW hS (lv_sub hl [0] rfl)
    · replace h := (if_neg cc).symm.trans h
      refine lv_iconst (v := (1 : Int32)) hx hb dX4_kindOf_12 (by decide) ?_
      cases h
      exact r_int F hr hW hS dX4_kindOf_13
set_option maxHeartbeats 4000000 in
set_option maxRecDepth 100000 in
theorem c_X4_kindOf {l : Launch} {G : Gt} {b : Nat} {a0 : Int32} {μ : Mm} {out : Int32} (h : sh_X4_kindOf a0 μ = some out) : Met l yX4_kindOf (wU (Cond.code yX4_kindOf cX4_kindOf 1 (some .int))) ({ frames := 0, cells := 0, slots := 0, locals := 0 } : Room) (PcW G b μ [.int a0]) (QW G b μ (some (.int out))) 0 0 (fb b) :=
  met_of [.int a0] (by decide) (Nat.le_of_ble_eq_true rfl) (fun F hr hW hl => wk_X4_kindOf F hr h hW va_S.rf hl)
set_option maxHeartbeats 4000000 in
set_option maxRecDepth 100000 in
theorem k_X4_kindOf {nL : Nat} (F : FX G b RX4 cc nL p s m args meth c) {a0 : Int32} {μ : Mm} {out : Int32} (h : sh_X4_kindOf a0 μ = some out) {index : Nat} (hl : Cond.methodLink RX4 index yX4_kindOf ∈ TBG) (hR : 0 + 1 ≤ R.frames ∧ 8 + (1 + 11) + 0 ≤ R.locals ∧ cells ≤ R.cells ∧ slots ≤ R.slots) (hW : WH G b μ H) (hS : va_S (fb b) s.heap H locs) (hsz : ls.size = nL) (hrest : (rest.map fun v => v.category).sum ≤ 8) (hdg : decode cc pc = .ok (.invokestatic index, 3))
    (kk : ∀ (H1 : Heap) (locs1 : List Loc), WH G b μ H1 → va_S (fb b) s.heap H1 locs1 → W p l e R s m args below meth c H1 locs1 cells slots Q (F0 m (pc + 3) ls (.int out :: rest))) : W p l e R s m args below meth c H locs cells slots Q (F0 m pc ls (.int a0 :: rest)) :=
  f_callS (As := [.int a0]) (c_X4_kindOf h) ⟨rfl, rfl⟩ q_604 q_4 q_605 rfl ⟨by decide +kernel, by decide +kernel, (show (parseMethodDescriptor yX4_kindOf.desc).map (fun d => d.parameters.length) = some 1 by decide +kernel)⟩ F hl hR hW hS hsz hrest rfl hdg kk
set_option maxHeartbeats 4000000 in
set_option maxRecDepth 100000 in
theorem k_X4_kindOf_x {own : String} {nL : Nat} (F : FX G b own cc nL p s m args meth c) {a0 : Int32} {μ : Mm} {out : Int32} (h : sh_X4_kindOf a0 μ = some out) {index : Nat} (hl : Cond.methodLink own index yX4_kindOf ∈ TBG) (hR : 0 + 1 ≤ R.frames ∧ 8 + (1 + 11) + 0 ≤ R.locals ∧ cells ≤ R.cells ∧ slots ≤ R.slots) (hW : WH G b μ H) (hS : va_S (fb b) s.heap H locs) (hsz : ls.size = nL) (hrest : (rest.map fun v => v.category).sum ≤ 8) (hdg : decode cc pc = .ok (.invokestatic index, 3))
    (kk : ∀ (H1 : Heap) (locs1 : List Loc), WH G b μ H1 → va_S (fb b) s.heap H1 locs1 → W p l e R s m args below meth c H1 locs1 cells slots Q (F0 m (pc + 3) ls (.int out :: rest))) : W p l e R s m args below meth c H locs cells slots Q (F0 m pc ls (.int a0 :: rest)) :=
  f_callSx (As := [.int a0]) (c_X4_kindOf h) ⟨rfl, rfl⟩ q_604 q_4 q_605 ⟨by decide +kernel, by decide +kernel, (show (parseMethodDescriptor yX4_kindOf.desc).map (fun d => d.parameters.length) = some 1 by decide +kernel)⟩ F hl hR hW hS hsz hrest rfl hdg kk
set_option maxHeartbeats 4000000 in
set_option maxRecDepth 100000 in
theorem wk_X4_advance_196 {n : Nat} {k127 : (Int32 → Mm → Option Mm)} {x1 : Int32} {s1 : Int32} {μ : Mm} {out : Mm} (F : FX G b RX4 cX4_advance 2 p s m args meth c) (hr : meth.sig.returnType = none) (hk127 : ∀ (x1 : Int32) (μ : Mm) (H : Heap) (locs : List Loc) (ls : Array Slot), k127 x1 μ = some out → WH G b μ H → va_S (fb b) s.heap H locs → lv_has ls 2 [(0, .ref (b + 5)), (1, .int x1)] → W p l e ({ frames := 1, cells := 0, slots := 0, locals := 21 } : Room) s m args below meth c H locs 0 0 (MQ below (QW G b out none) args s 0 0 (fb b)) (F0 m 127 ls [])) (h : sh_X4_advance_196 n k127 x1 s1 μ = some out) (hW : WH G b μ H) (hS : va_S (fb b) s.heap H locs) (hl : lv_has ls 2 [(0, .ref (b + 5)), (1, .int x1)]) : W p l e ({ frames := 1, cells := 0, slots := 0, locals := 21 } : Room) s m args below meth c H locs 0 0 (MQ below (QW G b out none) args s 0 0 (fb b)) (F0 m 196 ls [.int s1, .ref (b + 5)]) := by
  have hx := F.1
  have hb := F.2.1
  unfold sh_X4_advance_196 at h
  obtain ⟨μ14, hmμ14, h⟩ := ob h
  refine fl_put4_8 kyf_5 F hW hS q_85 hmμ14 dX4_advance_196 (fun H locs hW hS => ?_)
  refine lv_aload_n hx hb dX4_advance_199 rfl (lv_at hl 0 rfl) ?_
  refine lv_dup hx hb dX4_advance_200 rfl ?_
  refine fl_get4 (v := .int (μ14.1 5 7)) kyf_5 F hW 7 (by decide) q_84 rfl rfl dX4_advance_201 ?_
  refine lv_iconst (v := (1 : Int32)) hx hb dX4_advance_204 (by decide) ?_
  refine lv_iadd hx hb dX4_advance_205 ?_
  obtain ⟨μ15, hmμ15, h⟩ := ob h
  refine fl_put4_7 kyf_5 F hW hS q_84 hmμ15 dX4_advance_206 (fun H locs hW hS => ?_)
  refine lv_goto (tgt := 127) hx hb dX4_advance_209 (by decide) ?_
  exact hk127 _ _ _ _ _ h hW hS (lv_sub hl [0, 1] rfl)
set_option maxHeartbeats 4000000 in
set_option maxRecDepth 100000 in
theorem wk_X4_advance_127 {n : Nat} {out : Mm} (F : FX G b RX4 cX4_advance 2 p s m args meth c) (hr : meth.sig.returnType = none) : ∀ (f : Nat) (x1 : Int32) (μ : Mm) (H : Heap) (locs : List Loc) (ls : Array Slot), sh_X4_advance_127 n f x1 μ = some out → WH G b μ H → va_S (fb b) s.heap H locs → lv_has ls 2 [(0, .ref (b + 5)), (1, .int x1)] → W p l e ({ frames := 1, cells := 0, slots := 0, locals := 21 } : Room) s m args below meth c H locs 0 0 (MQ below (QW G b out none) args s 0 0 (fb b)) (F0 m 127 ls []) := by
  have hx := F.1
  have hb := F.2.1
  intro f
  induction f with
  | zero =>
    intro _ _ _ _ _ h
    rw [sh_X4_advance_127] at h
    cases h
  | succ f ih =>
    intro x1 μ H locs ls h hW hS hl
    rw [sh_X4_advance_127] at h
    have hk127 := ih
    refine lv_aload_n hx hb dX4_advance_127 rfl (lv_at hl 0 rfl) ?_
    refine fl_get4 (v := .int (μ.1 5 7)) kyf_5 F hW 7 (by decide) q_84 rfl rfl dX4_advance_128 ?_
    refine lv_iload_n hx hb dX4_advance_131 rfl (lv_at hl 1 rfl) ?_
    refine lv_icmp_ge (tgt := 212) hx hb dX4_advance_132 (by decide) (fun cc => ?_) (fun cc => ?_)
    · replace h := (if_pos cc).symm.trans h
      cases h
      exact r_void F hr hW hS dX4_advance_212
    · replace h := (if_neg cc).symm.trans h
      refine lv_aload_n hx hb dX4_advance_135 rfl (lv_at hl 0 rfl) ?_
      have pf11 := hW.2.2
      refine fl_get4 (v := .ref (b + (μ.2.2 1))) kyf_5 F hW 4 (by decide) q_81 rfl rfl dX4_advance_136 ?_
      refine lv_aload_n hx hb dX4_advance_139 rfl (lv_at hl 0 rfl) ?_
      refine fl_get4 (v := .int (μ.1 5 7)) kyf_5 F hW 7 (by decide) q_84 rfl rfl dX4_advance_140 ?_
      obtain ⟨r12, qr12, h⟩ := ob h
      refine k_X8_at F pf11 qr12 q_599 ⟨Nat.le_of_ble_eq_true rfl, Nat.le_of_ble_eq_true rfl, Nat.le_of_ble_eq_true rfl, Nat.le_of_ble_eq_true rfl⟩ hW hS hl.1 (Nat.le_of_ble_eq_true rfl) dX4_advance_143 (fun H locs hW hS => ?_)
      obtain ⟨r13, qr13, h⟩ := ob h
      refine k_X4_kindOf F qr13 q_603 ⟨Nat.le_of_ble_eq_true rfl, Nat.le_of_ble_eq_true rfl, Nat.le_of_ble_eq_true rfl, Nat.le_of_ble_eq_true rfl⟩ hW hS hl.1 (Nat.le_of_ble_eq_true rfl) dX4_advance_146 (fun H locs hW hS => ?_)
      refine lv_aload_n hx hb dX4_advance_149 rfl (lv_at hl 0 rfl) ?_
      refine fl_get4 (v := .int (μ.1 5 5)) kyf_5 F hW 5 (by decide) q_82 rfl rfl dX4_advance_150 ?_
      refine lv_icmp_ne (tgt := 212) hx hb dX4_advance_153 (by decide) (fun cc => ?_) (fun cc => ?_)
      · replace h := (if_neg cc).symm.trans h
        cases h
        exact r_void F hr hW hS dX4_advance_212
      · replace h := (if_pos cc).symm.trans h
        refine lv_aload_n hx hb dX4_advance_156 rfl (lv_at hl 0 rfl) ?_
        refine lv_aload_n hx hb dX4_advance_157 rfl (lv_at hl 0 rfl) ?_
        refine fl_get4 (v := .int (μ.1 5 5)) kyf_5 F hW 5 (by decide) q_82 rfl rfl dX4_advance_158 ?_
        refine lv_iconst (v := (2 : Int32)) hx hb dX4_advance_161 (by decide) ?_
        refine lv_icmp_ne (tgt := 195) hx hb dX4_advance_162 (by decide) (fun cc => ?_) (fun cc => ?_)
        · replace h := (if_neg cc).symm.trans h
          refine lv_iconst (v := (0 : Int32)) hx hb dX4_advance_195 (by decide) ?_
          exact wk_X4_advance_196 F hr hk127 h hW hS (lv_sub hl [0, 1] rfl)
        · replace h := (if_pos cc).symm.trans h
          refine lv_aload_n hx hb dX4_advance_165 rfl (lv_at hl 0 rfl) ?_
          refine fl_get4 (v := .int (μ.1 5 8)) kyf_5 F hW 8 (by decide) q_85 rfl rfl dX4_advance_166 ?_
          refine lv_bipush (v := (10 : Int32)) hx hb dX4_advance_169 (by decide) ?_
          refine lv_imul hx hb dX4_advance_171 ?_
          refine lv_aload_n hx hb dX4_advance_172 rfl (lv_at hl 0 rfl) ?_
          have pf16 := hW.2.2
          refine fl_get4 (v := .ref (b + (μ.2.2 1))) kyf_5 F hW 4 (by decide) q_81 rfl rfl dX4_advance_173 ?_
          refine lv_aload_n hx hb dX4_advance_176 rfl (lv_at hl 0 rfl) ?_
          refine fl_get4 (v := .int (μ.1 5 7)) kyf_5 F hW 7 (by decide) q_84 rfl rfl dX4_advance_177 ?_
          obtain ⟨r17, qr17, h⟩ := ob h
          refine k_X8_at F pf16 qr17 q_599 ⟨Nat.le_of_ble_eq_true rfl, Nat.le_of_ble_eq_true rfl, Nat.le_of_ble_eq_true rfl, Nat.le_of_ble_eq_true rfl⟩ hW hS hl.1 (Nat.le_of_ble_eq_true rfl) dX4_advance_180 (fun H locs hW hS => ?_)
          refine lv_iadd hx hb dX4_advance_183 ?_
          refine lv_bipush (v := (48 : Int32)) hx hb dX4_advance_184 (by decide) ?_
          refine lv_isub hx hb dX4_advance_186 ?_
          refine lv_ldc hx hb F.2.2.2.1 (F.2.2.2.2.1 _ q_606) dX4_advance_187 ?_
          refine fl_min F hl.1 q_607 q_465 q_3 mm_min (Nat.le_of_ble_eq_true rfl) (Nat.le_of_ble_eq_true rfl) (Nat.zero_le _) (Nat.zero_le _) dX4_advance_189 ?_
          refine lv_goto (tgt := 196) hx hb dX4_advance_192 (by decide) ?_
          exact wk_X4_advance_196 F hr hk127 h hW hS (lv_sub hl [0, 1] rfl)
set_option maxHeartbeats 4000000 in
set_option maxRecDepth 100000 in
theorem wk_X4_advance_113 {n : Nat} {s0 : Int32} {μ : Mm} {out : Mm} (F : FX G b RX4 cX4_advance 2 p s m args meth c) (hr : meth.sig.returnType = none) (h : sh_X4_advance_113 n s0 μ = some out) (hW : WH G b μ H) (hS : va_S (fb b) s.heap H locs) (hl : lv_has ls 2 [(0, .ref (b + 5))]) : W p l e ({ frames := 1, cells := 0, slots := 0, locals := 21 } : Room) s m args below meth c H locs 0 0 (MQ below (QW G b out none) args s 0 0 (fb b)) (F0 m 113 ls [.int s0]) := by
  have hx := F.1
  have hb := F.2.1
  unfold sh_X4_advance_113 at h
  refine lv_istore_n (lv' := [(1, .int s0), (0, .ref (b + 5))]) hx hb dX4_advance_113 rfl hl (by decide) rfl (fun ls hl => ?_)
  refine lv_aload_n hx hb dX4_advance_114 rfl (lv_at hl 1 rfl) ?_
  refine lv_aload_n hx hb dX4_advance_115 rfl (lv_at hl 1 rfl) ?_
  refine fl_get4 (v := .int (μ.1 5 6)) kyf_5 F hW 6 (by decide) q_83 rfl rfl dX4_advance_116 ?_
  obtain ⟨μ9, hmμ9, h⟩ := ob h
  refine fl_put4_7 kyf_5 F hW hS q_84 hmμ9 dX4_advance_119 (fun H locs hW hS => ?_)
  refine lv_aload_n hx hb dX4_advance_122 rfl (lv_at hl 1 rfl) ?_
  refine lv_iconst (v := (0 : Int32)) hx hb dX4_advance_123 (by decide) ?_
  obtain ⟨μ10, hmμ10, h⟩ := ob h
  refine fl_put4_8 kyf_5 F hW hS q_85 hmμ10 dX4_advance_124 (fun H locs hW hS => ?_)
  exact wk_X4_advance_127 F hr n _ _ _ _ _ h hW hS (lv_sub hl [1, 0] rfl)
set_option maxHeartbeats 4000000 in
set_option maxRecDepth 100000 in
theorem wk_X4_advance_86 {n : Nat} {s1 : Int32} {μ : Mm} {out : Mm} (F : FX G b RX4 cX4_advance 2 p s m args meth c) (hr : meth.sig.returnType = none) (h : sh_X4_advance_86 n s1 μ = some out) (hW : WH G b μ H) (hS : va_S (fb b) s.heap H locs) (hl : lv_has ls 2 [(0, .ref (b + 5))]) : W p l e ({ frames := 1, cells := 0, slots := 0, locals := 21 } : Room) s m args below meth c H locs 0 0 (MQ below (QW G b out none) args s 0 0 (fb b)) (F0 m 86 ls [.int s1, .ref (b + 5)]) := by
  have hx := F.1
  have hb := F.2.1
  unfold sh_X4_advance_86 at h
  obtain ⟨μ6, hmμ6, h⟩ := ob h
  refine fl_put4_5 kyf_5 F hW hS q_82 hmμ6 dX4_advance_86 (fun H locs hW hS => ?_)
  refine lv_aload_n hx hb dX4_advance_89 rfl (lv_at hl 0 rfl) ?_
  refine fl_get4 (v := .int (μ6.1 5 5)) kyf_5 F hW 5 (by decide) q_82 rfl rfl dX4_advance_90 ?_
  refine lv_iconst (v := (3 : Int32)) hx hb dX4_advance_93 (by decide) ?_
  refine lv_icmp_ne (tgt := 106) hx hb dX4_advance_94 (by decide) (fun cc => ?_) (fun cc => ?_)
  · replace h := (if_neg cc).symm.trans h
    refine lv_aload_n hx hb dX4_advance_106 rfl (lv_at hl 0 rfl) ?_
    have pf7 := hW.2.2
    refine fl_get4 (v := .ref (b + (μ6.2.2 1))) kyf_5 F hW 4 (by decide) q_81 rfl rfl dX4_advance_107 ?_
    obtain ⟨r8, qr8, h⟩ := ob h
    refine k_X8_length F pf7 qr8 q_595 ⟨Nat.le_of_ble_eq_true rfl, Nat.le_of_ble_eq_true rfl, Nat.le_of_ble_eq_true rfl, Nat.le_of_ble_eq_true rfl⟩ hW hS hl.1 (Nat.le_of_ble_eq_true rfl) dX4_advance_110 (fun H locs hW hS => ?_)
    exact wk_X4_advance_113 F hr h hW hS (lv_sub hl [0] rfl)
  · replace h := (if_pos cc).symm.trans h
    refine lv_aload_n hx hb dX4_advance_97 rfl (lv_at hl 0 rfl) ?_
    refine fl_get4 (v := .int (μ6.1 5 6)) kyf_5 F hW 6 (by decide) q_83 rfl rfl dX4_advance_98 ?_
    refine lv_iconst (v := (1 : Int32)) hx hb dX4_advance_101 (by decide) ?_
    refine lv_iadd hx hb dX4_advance_102 ?_
    refine lv_goto (tgt := 113) hx hb dX4_advance_103 (by decide) ?_
    exact wk_X4_advance_113 F hr h hW hS (lv_sub hl [0] rfl)
set_option maxHeartbeats 4000000 in
set_option maxRecDepth 100000 in
theorem wk_X4_advance_53 {n : Nat} {μ : Mm} {out : Mm} (F : FX G b RX4 cX4_advance 2 p s m args meth c) (hr : meth.sig.returnType = none) (h : sh_X4_advance_53 n μ = some out) (hW : WH G b μ H) (hS : va_S (fb b) s.heap H locs) (hl : lv_has ls 2 [(0, .ref (b + 5))]) : W p l e ({ frames := 1, cells := 0, slots := 0, locals := 21 } : Room) s m args below meth c H locs 0 0 (MQ below (QW G b out none) args s 0 0 (fb b)) (F0 m 53 ls []) := by
  have hx := F.1
  have hb := F.2.1
  unfold sh_X4_advance_53 at h
  refine lv_aload_n hx hb dX4_advance_53 rfl (lv_at hl 0 rfl) ?_
  refine lv_aload_n hx hb dX4_advance_54 rfl (lv_at hl 0 rfl) ?_
  refine fl_get4 (v := .int (μ.1 5 6)) kyf_5 F hW 6 (by decide) q_83 rfl rfl dX4_advance_55 ?_
  refine lv_aload_n hx hb dX4_advance_58 rfl (lv_at hl 0 rfl) ?_
  have pf4 := hW.2.2
  refine fl_get4 (v := .ref (b + (μ.2.2 1))) kyf_5 F hW 4 (by decide) q_81 rfl rfl dX4_advance_59 ?_
  obtain ⟨r5, qr5, h⟩ := ob h
  refine k_X8_length F pf4 qr5 q_595 ⟨Nat.le_of_ble_eq_true rfl, Nat.le_of_ble_eq_true rfl, Nat.le_of_ble_eq_true rfl, Nat.le_of_ble_eq_true rfl⟩ hW hS hl.1 (Nat.le_of_ble_eq_true rfl) dX4_advance_62 (fun H locs hW hS => ?_)
  refine lv_icmp_ge (tgt := 85) hx hb dX4_advance_65 (by decide) (fun cc => ?_) (fun cc => ?_)
  · replace h := (if_pos cc).symm.trans h
    refine lv_iconst (v := (0 : Int32)) hx hb dX4_advance_85 (by decide) ?_
    exact wk_X4_advance_86 F hr h hW hS (lv_sub hl [0] rfl)
  · replace h := (if_neg cc).symm.trans h
    refine lv_aload_n hx hb dX4_advance_68 rfl (lv_at hl 0 rfl) ?_
    have pf18 := hW.2.2
    refine fl_get4 (v := .ref (b + (μ.2.2 1))) kyf_5 F hW 4 (by decide) q_81 rfl rfl dX4_advance_69 ?_
    refine lv_aload_n hx hb dX4_advance_72 rfl (lv_at hl 0 rfl) ?_
    refine fl_get4 (v := .int (μ.1 5 6)) kyf_5 F hW 6 (by decide) q_83 rfl rfl dX4_advance_73 ?_
    obtain ⟨r19, qr19, h⟩ := ob h
    refine k_X8_at F pf18 qr19 q_599 ⟨Nat.le_of_ble_eq_true rfl, Nat.le_of_ble_eq_true rfl, Nat.le_of_ble_eq_true rfl, Nat.le_of_ble_eq_true rfl⟩ hW hS hl.1 (Nat.le_of_ble_eq_true rfl) dX4_advance_76 (fun H locs hW hS => ?_)
    obtain ⟨r20, qr20, h⟩ := ob h
    refine k_X4_kindOf F qr20 q_603 ⟨Nat.le_of_ble_eq_true rfl, Nat.le_of_ble_eq_true rfl, Nat.le_of_ble_eq_true rfl, Nat.le_of_ble_eq_true rfl⟩ hW hS hl.1 (Nat.le_of_ble_eq_true rfl) dX4_advance_79 (fun H locs hW hS => ?_)
    refine lv_goto (tgt := 86) hx hb dX4_advance_82 (by decide) ?_
    exact wk_X4_advance_86 F hr h hW hS (lv_sub hl [0] rfl)
set_option maxHeartbeats 4000000 in
set_option maxRecDepth 100000 in
theorem wk_X4_advance_8 {n : Nat} {out : Mm} (F : FX G b RX4 cX4_advance 2 p s m args meth c) (hr : meth.sig.returnType = none) : ∀ (f : Nat) (μ : Mm) (H : Heap) (locs : List Loc) (ls : Array Slot), sh_X4_advance_8 n f μ = some out → WH G b μ H → va_S (fb b) s.heap H locs → lv_has ls 2 [(0, .ref (b + 5))] → W p l e ({ frames := 1, cells := 0, slots := 0, locals := 21 } : Room) s m args below meth c H locs 0 0 (MQ below (QW G b out none) args s 0 0 (fb b)) (F0 m 8 ls []) := by
  have hx := F.1
  have hb := F.2.1
  intro f
  induction f with
  | zero =>
    intro _ _ _ _ h
    rw [sh_X4_advance_8] at h
    cases h
  | succ f ih =>
    intro μ H locs ls h hW hS hl
    rw [sh_X4_advance_8] at h
    have hk8 := ih
    refine lv_aload_n hx hb dX4_advance_8 rfl (lv_at hl 0 rfl) ?_
    refine fl_get4 (v := .int (μ.1 5 6)) kyf_5 F hW 6 (by decide) q_83 rfl rfl dX4_advance_9 ?_
    refine lv_aload_n hx hb dX4_advance_12 rfl (lv_at hl 0 rfl) ?_
    have pf2 := hW.2.2
    refine fl_get4 (v := .ref (b + (μ.2.2 1))) kyf_5 F hW 4 (by decide) q_81 rfl rfl dX4_advance_13 ?_
    obtain ⟨r3, qr3, h⟩ := ob h
    refine k_X8_length F pf2 qr3 q_595 ⟨Nat.le_of_ble_eq_true rfl, Nat.le_of_ble_eq_true rfl, Nat.le_of_ble_eq_true rfl, Nat.le_of_ble_eq_true rfl⟩ hW hS hl.1 (Nat.le_of_ble_eq_true rfl) dX4_advance_16 (fun H locs hW hS => ?_)
    refine lv_icmp_ge (tgt := 53) hx hb dX4_advance_19 (by decide) (fun cc => ?_) (fun cc => ?_)
    · replace h := (if_pos cc).symm.trans h
      exact wk_X4_advance_53 F hr h hW hS (lv_sub hl [0] rfl)
    · replace h := (if_neg cc).symm.trans h
      refine lv_aload_n hx hb dX4_advance_22 rfl (lv_at hl 0 rfl) ?_
      have pf21 := hW.2.2
      refine fl_get4 (v := .ref (b + (μ.2.2 1))) kyf_5 F hW 4 (by decide) q_81 rfl rfl dX4_advance_23 ?_
      refine lv_aload_n hx hb dX4_advance_26 rfl (lv_at hl 0 rfl) ?_
      refine fl_get4 (v := .int (μ.1 5 6)) kyf_5 F hW 6 (by decide) q_83 rfl rfl dX4_advance_27 ?_
      obtain ⟨r22, qr22, h⟩ := ob h
      refine k_X8_at F pf21 qr22 q_599 ⟨Nat.le_of_ble_eq_true rfl, Nat.le_of_ble_eq_true rfl, Nat.le_of_ble_eq_true rfl, Nat.le_of_ble_eq_true rfl⟩ hW hS hl.1 (Nat.le_of_ble_eq_true rfl) dX4_advance_30 (fun H locs hW hS => ?_)
      obtain ⟨r23, qr23, h⟩ := ob h
      refine k_X4_kindOf F qr23 q_603 ⟨Nat.le_of_ble_eq_true rfl, Nat.le_of_ble_eq_true rfl, Nat.le_of_ble_eq_true rfl, Nat.le_of_ble_eq_true rfl⟩ hW hS hl.1 (Nat.le_of_ble_eq_true rfl) dX4_advance_33 (fun H locs hW hS => ?_)
      refine lv_iconst (v := (4 : Int32)) hx hb dX4_advance_36 (by decide) ?_
      refine lv_icmp_ne (tgt := 53) hx hb dX4_advance_37 (by decide) (fun cc => ?_) (fun cc => ?_)
      · replace h := (if_neg cc).symm.trans h
        exact wk_X4_advance_53 F hr h hW hS (lv_sub hl [0] rfl)
      · replace h := (if_pos cc).symm.trans h
        refine lv_aload_n hx hb dX4_advance_40 rfl (lv_at hl 0 rfl) ?_
        refine lv_dup hx hb dX4_advance_41 rfl ?_
        refine fl_get4 (v := .int (μ.1 5 6)) kyf_5 F hW 6 (by decide) q_83 rfl rfl dX4_advance_42 ?_
        refine lv_iconst (v := (1 : Int32)) hx hb dX4_advance_45 (by decide) ?_
        refine lv_iadd hx hb dX4_advance_46 ?_
        obtain ⟨μ24, hmμ24, h⟩ := ob h
        refine fl_put4_6 kyf_5 F hW hS q_83 hmμ24 dX4_advance_47 (fun H locs hW hS => ?_)
        refine lv_goto (tgt := 8) hx hb dX4_advance_50 (by decide) ?_
        exact hk8 _ _ _ _ h hW hS (lv_sub hl [0] rfl)
set_option maxHeartbeats 4000000 in
set_option maxRecDepth 100000 in
theorem wk_X4_advance {n : Nat} {μ : Mm} {out : Mm} (F : FX G b RX4 cX4_advance 2 p s m args meth c) (hr : meth.sig.returnType = none) (h : sh_X4_advance n  μ = some out) (hW : WH G b μ H) (hS : va_S (fb b) s.heap H locs) (hl : lv_has ls 2 [(0, .ref (b + 5))]) : W p l e ({ frames := 1, cells := 0, slots := 0, locals := 21 } : Room) s m args below meth c H locs 0 0 (MQ below (QW G b out none) args s 0 0 (fb b)) (F0 m 0 ls []) := by
  have hx := F.1
  have hb := F.2.1
  unfold sh_X4_advance at h
  refine lv_aload_n hx hb dX4_advance_0 rfl (lv_at hl 0 rfl) ?_
  refine lv_aload_n hx hb dX4_advance_1 rfl (lv_at hl 0 rfl) ?_
  refine fl_get4 (v := .int (μ.1 5 7)) kyf_5 F hW 7 (by decide) q_84 rfl rfl dX4_advance_2 ?_
  obtain ⟨μ1, hmμ1, h⟩ := ob h
  refine fl_put4_6 kyf_5 F hW hS q_83 hmμ1 dX4_advance_5 (fun H locs hW hS => ?_)
  exact wk_X4_advance_8 F hr n _ _ _ _ h hW hS (lv_sub hl [0] rfl)
set_option maxHeartbeats 4000000 in
set_option maxRecDepth 100000 in
theorem c_X4_advance {l : Launch} {G : Gt} {b : Nat} {n : Nat} {μ : Mm} {out : Mm} (h : sh_X4_advance n  μ = some out) : Met l yX4_advance (wU (Cond.code yX4_advance cX4_advance 2 none)) ({ frames := 1, cells := 0, slots := 0, locals := 21 } : Room) (PcW G b μ [.ref (b + 5)]) (QW G b out none) 0 0 (fb b) :=
  met_of [.ref (b + 5)] (by decide) (Nat.le_of_ble_eq_true rfl) (fun F hr hW hl => wk_X4_advance F hr h hW va_S.rf hl)
set_option maxHeartbeats 4000000 in
set_option maxRecDepth 100000 in
theorem k_X4_advance {own : String} {nL : Nat} (F : FX G b own cc nL p s m args meth c) {n : Nat} {μ : Mm} {out : Mm} (h : sh_X4_advance n  μ = some out) {index : Nat} (hl : Cond.methodLink own index yX4_advance ∈ TBG) (hR : 1 + 1 ≤ R.frames ∧ 8 + (2 + 11) + 21 ≤ R.locals ∧ cells ≤ R.cells ∧ slots ≤ R.slots) (hW : WH G b μ H) (hS : va_S (fb b) s.heap H locs) (hsz : ls.size = nL) (hrest : (rest.map fun v => v.category).sum ≤ 8) (hdg : decode cc pc = .ok (.invokevirtual index, 3))
    (kk : ∀ (H1 : Heap) (locs1 : List Loc), WH G b out H1 → va_S (fb b) s.heap H1 locs1 → W p l e R s m args below meth c H1 locs1 cells slots Q (F0 m (pc + 3) ls (rest))) : W p l e R s m args below meth c H locs cells slots Q (F0 m pc ls (.ref (b + 5) :: rest)) :=
  f_callV (As := []) (ci := 4) (c_X4_advance h) ⟨rfl, rfl⟩ rfl (ky_lt kyf_5 (by decide)) (wF_4 kyf_5) q_593 qp_9 q_4 q_594 rfl ⟨by decide +kernel, by decide +kernel, (show (parseMethodDescriptor yX4_advance.desc).map (fun d => d.parameters.length) = some 0 by decide +kernel)⟩ F hl hR hW hS hsz hrest rfl hdg kk
set_option maxHeartbeats 4000000 in
set_option maxRecDepth 100000 in
theorem wk_X4_start {n : Nat} {a1 : Nat} {μ : Mm} {out : Mm} (F : FX G b RX4 cX4_start 2 p s m args meth c) (hr : meth.sig.returnType = none) (ha1 : okTx a1) (h : sh_X4_start n a1 μ = some out) (hW : WH G b μ H) (hS : va_S (fb b) s.heap H locs) (hl : lv_has ls 2 [(0, .ref (b + 5)), (1, .ref (b + a1))]) : W p l e ({ frames := 2, cells := 0, slots := 0, locals := 42 } : Room) s m args below meth c H locs 0 0 (MQ below (QW G b out none) args s 0 0 (fb b)) (F0 m 0 ls []) := by
  have hx := F.1
  have hb := F.2.1
  unfold sh_X4_start at h
  refine lv_aload_n hx hb dX4_start_0 rfl (lv_at hl 0 rfl) ?_
  refine lv_aload_n hx hb dX4_start_1 rfl (lv_at hl 1 rfl) ?_
  obtain ⟨μ1, hmμ1, h⟩ := ob h
  refine fl_put4_4 F hW hS q_81 ha1 hmμ1 dX4_start_2 (fun H locs hW hS => ?_)
  refine lv_aload_n hx hb dX4_start_5 rfl (lv_at hl 0 rfl) ?_
  refine lv_iconst (v := (0 : Int32)) hx hb dX4_start_6 (by decide) ?_
  obtain ⟨μ2, hmμ2, h⟩ := ob h
  refine fl_put4_0 kyf_5 F hW hS q_73 hmμ2 dX4_start_7 (fun H locs hW hS => ?_)
  refine lv_aload_n hx hb dX4_start_10 rfl (lv_at hl 0 rfl) ?_
  refine lv_iconst (v := (-1 : Int32)) hx hb dX4_start_11 (by decide) ?_
  obtain ⟨μ3, hmμ3, h⟩ := ob h
  refine fl_put4_1 kyf_5 F hW hS q_75 hmμ3 dX4_start_12 (fun H locs hW hS => ?_)
  refine lv_aload_n hx hb dX4_start_15 rfl (lv_at hl 0 rfl) ?_
  refine lv_iconst (v := (0 : Int32)) hx hb dX4_start_16 (by decide) ?_
  obtain ⟨μ4, hmμ4, h⟩ := ob h
  refine fl_put4_7 kyf_5 F hW hS q_84 hmμ4 dX4_start_17 (fun H locs hW hS => ?_)
  refine lv_aload_n hx hb dX4_start_20 rfl (lv_at hl 0 rfl) ?_
  obtain ⟨r5, qr5, h⟩ := ob h
  refine k_X4_advance F qr5 q_591 ⟨Nat.le_of_ble_eq_true rfl, Nat.le_of_ble_eq_true rfl, Nat.le_of_ble_eq_true rfl, Nat.le_of_ble_eq_true rfl⟩ hW hS hl.1 (Nat.le_of_ble_eq_true rfl) dX4_start_21 (fun H locs hW hS => ?_)
  cases h
  exact r_void F hr hW hS dX4_start_24
set_option maxHeartbeats 4000000 in
set_option maxRecDepth 100000 in
theorem c_X4_start {l : Launch} {G : Gt} {b : Nat} {n : Nat} {a1 : Nat} {μ : Mm} {out : Mm} (ha1 : okTx a1) (h : sh_X4_start n a1 μ = some out) : Met l yX4_start (wU (Cond.code yX4_start cX4_start 2 none)) ({ frames := 2, cells := 0, slots := 0, locals := 42 } : Room) (PcW G b μ [.ref (b + 5), .ref (b + a1)]) (QW G b out none) 0 0 (fb b) :=
  met_of [.ref (b + 5), .ref (b + a1)] (by decide) (Nat.le_of_ble_eq_true rfl) (fun F hr hW hl => wk_X4_start F hr ha1 h hW va_S.rf hl)
set_option maxHeartbeats 4000000 in
set_option maxRecDepth 100000 in
theorem k_X4_start {own : String} {nL : Nat} (F : FX G b own cc nL p s m args meth c) {n : Nat} {a1 : Nat} {μ : Mm} {out : Mm} (ha1 : okTx a1) (h : sh_X4_start n a1 μ = some out) {index : Nat} (hl : Cond.methodLink own index yX4_start ∈ TBG) (hR : 2 + 1 ≤ R.frames ∧ 8 + (2 + 11) + 42 ≤ R.locals ∧ cells ≤ R.cells ∧ slots ≤ R.slots) (hW : WH G b μ H) (hS : va_S (fb b) s.heap H locs) (hsz : ls.size = nL) (hrest : (rest.map fun v => v.category).sum ≤ 8) (hdg : decode cc pc = .ok (.invokevirtual index, 3))
    (kk : ∀ (H1 : Heap) (locs1 : List Loc), WH G b out H1 → va_S (fb b) s.heap H1 locs1 → W p l e R s m args below meth c H1 locs1 cells slots Q (F0 m (pc + 3) ls (rest))) : W p l e R s m args below meth c H locs cells slots Q (F0 m pc ls (.ref (b + a1) :: .ref (b + 5) :: rest)) :=
  f_callV (As := [.ref (b + a1)]) (ci := 4) (c_X4_start ha1 h) ⟨rfl, rfl⟩ rfl (ky_lt kyf_5 (by decide)) (wF_4 kyf_5) q_589 qp_8 q_4 q_590 rfl ⟨by decide +kernel, by decide +kernel, (show (parseMethodDescriptor yX4_start.desc).map (fun d => d.parameters.length) = some 1 by decide +kernel)⟩ F hl hR hW hS hsz hrest rfl hdg kk
set_option maxHeartbeats 4000000 in
set_option maxRecDepth 100000 in
theorem wk_X4_isAt_28 {n : Nat} {a1 : Nat} {μ : Mm} {out : Int32} (F : FX G b RX4 cX4_isAt 3 p s m args meth c) (hr : meth.sig.returnType = some .boolean) (ha1 : a1 < 13) : ∀ (f : Nat) (x2 : Int32) (H : Heap) (locs : List Loc) (ls : Array Slot), sh_X4_isAt_28 n a1 μ f x2 = some out → WH G b μ H → va_S (fb b) s.heap H locs → lv_has ls 3 [(0, .ref (b + 5)), (1, .ref (G.2.2.1 a1)), (2, .int x2)] → W p l e ({ frames := 4, cells := 0, slots := 0, locals := 86 } : Room) s m args below meth c H locs 0 0 (MQ below (QW G b μ (some (.int out))) args s 0 0 (fb b)) (F0 m 28 ls []) := by
  have hx := F.1
  have hb := F.2.1
  intro f
  induction f with
  | zero =>
    intro _ _ _ _ h
    rw [sh_X4_isAt_28] at h
    cases h
  | succ f ih =>
    intro x2  H locs ls h hW hS hl
    rw [sh_X4_isAt_28] at h
    have hk28 := ih
    refine lv_iload_n hx hb dX4_isAt_28 rfl (lv_at hl 2 rfl) ?_
    refine lv_aload_n hx hb dX4_isAt_29 rfl (lv_at hl 1 rfl) ?_
    refine k_J0_length F ha1 q_617 ⟨Nat.le_of_ble_eq_true rfl, Nat.le_of_ble_eq_true rfl, Nat.le_of_ble_eq_true rfl, Nat.le_of_ble_eq_true rfl⟩ hW hS hl.1 (Nat.le_of_ble_eq_true rfl) dX4_isAt_30 (fun H locs hW hS => ?_)
    refine lv_icmp_ge (tgt := 65) hx hb dX4_isAt_33 (by decide) (fun cc => ?_) (fun cc => ?_)
    · replace h := (if_pos cc).symm.trans h
      refine lv_iconst (v := (1 : Int32)) hx hb dX4_isAt_65 (by decide) ?_
      cases h
      exact r_bool F hr (Or.inr rfl) hW hS dX4_isAt_66
    · replace h := (if_neg cc).symm.trans h
      refine lv_aload_n hx hb dX4_isAt_36 rfl (lv_at hl 0 rfl) ?_
      have pf3 := hW.2.2
      refine fl_get4 (v := .ref (b + (μ.2.2 1))) kyf_5 F hW 4 (by decide) q_81 rfl rfl dX4_isAt_37 ?_
      refine lv_aload_n hx hb dX4_isAt_40 rfl (lv_at hl 0 rfl) ?_
      refine fl_get4 (v := .int (μ.1 5 6)) kyf_5 F hW 6 (by decide) q_83 rfl rfl dX4_isAt_41 ?_
      refine lv_iload_n hx hb dX4_isAt_44 rfl (lv_at hl 2 rfl) ?_
      refine lv_iadd hx hb dX4_isAt_45 ?_
      obtain ⟨r4, qr4, h⟩ := ob h
      refine k_X8_at F pf3 qr4 q_599 ⟨Nat.le_of_ble_eq_true rfl, Nat.le_of_ble_eq_true rfl, Nat.le_of_ble_eq_true rfl, Nat.le_of_ble_eq_true rfl⟩ hW hS hl.1 (Nat.le_of_ble_eq_true rfl) dX4_isAt_46 (fun H locs hW hS => ?_)
      refine lv_aload_n hx hb dX4_isAt_49 rfl (lv_at hl 1 rfl) ?_
      refine lv_iload_n hx hb dX4_isAt_50 rfl (lv_at hl 2 rfl) ?_
      obtain ⟨v5, qv5, h⟩ := ob h
      refine k_J0_charAt F ha1 qv5 q_627 ⟨Nat.le_of_ble_eq_true rfl, Nat.le_of_ble_eq_true rfl, Nat.le_of_ble_eq_true rfl, Nat.le_of_ble_eq_true rfl⟩ hW hS hl.1 (Nat.le_of_ble_eq_true rfl) dX4_isAt_51 (fun H locs hW hS => ?_)
      refine lv_icmp_eq (tgt := 59) hx hb dX4_isAt_54 (by decide) (fun cc => ?_) (fun cc => ?_)
      · replace h := (if_pos cc).symm.trans h
        refine lv_iinc (v := (x2 + (1 : Int32))) (lv' := [(2, .int (x2 + (1 : Int32))), (0, .ref (b + 5)), (1, .ref (G.2.2.1 a1))]) hx hb dX4_isAt_59 hl (k := 2) rfl rfl (by decide) rfl (fun ls hl => ?_)
        refine lv_goto (tgt := 28) hx hb dX4_isAt_62 (by decide) ?_
        exact hk28 _ _ _ _ h hW hS (lv_sub hl [1, 2, 0] rfl)
      · replace h := (if_neg cc).symm.trans h
        refine lv_iconst (v := (0 : Int32)) hx hb dX4_isAt_57 (by decide) ?_
        cases h
        exact r_bool F hr (Or.inl rfl) hW hS dX4_isAt_58
set_option maxHeartbeats 4000000 in
set_option maxRecDepth 100000 in
theorem wk_X4_isAt {n : Nat} {a1 : Nat} {μ : Mm} {out : Int32} (F : FX G b RX4 cX4_isAt 3 p s m args meth c) (hr : meth.sig.returnType = some .boolean) (ha1 : a1 < 13) (h : sh_X4_isAt n a1 μ = some out) (hW : WH G b μ H) (hS : va_S (fb b) s.heap H locs) (hl : lv_has ls 3 [(0, .ref (b + 5)), (1, .ref (G.2.2.1 a1))]) : W p l e ({ frames := 4, cells := 0, slots := 0, locals := 86 } : Room) s m args below meth c H locs 0 0 (MQ below (QW G b μ (some (.int out))) args s 0 0 (fb b)) (F0 m 0 ls []) := by
  have hx := F.1
  have hb := F.2.1
  unfold sh_X4_isAt at h
  refine lv_aload_n hx hb dX4_isAt_0 rfl (lv_at hl 0 rfl) ?_
  refine fl_get4 (v := .int (μ.1 5 5)) kyf_5 F hW 5 (by decide) q_82 rfl rfl dX4_isAt_1 ?_
  refine lv_iconst (v := (1 : Int32)) hx hb dX4_isAt_4 (by decide) ?_
  refine lv_icmp_ne (tgt := 24) hx hb dX4_isAt_5 (by decide) (fun cc => ?_) (fun cc => ?_)
  · replace h := (if_neg cc).symm.trans h
    refine lv_iconst (v := (0 : Int32)) hx hb dX4_isAt_24 (by decide) ?_
    cases h
    exact r_bool F hr (Or.inl rfl) hW hS dX4_isAt_25
  · replace h := (if_pos cc).symm.trans h
    refine lv_aload_n hx hb dX4_isAt_8 rfl (lv_at hl 0 rfl) ?_
    refine fl_get4 (v := .int (μ.1 5 7)) kyf_5 F hW 7 (by decide) q_84 rfl rfl dX4_isAt_9 ?_
    refine lv_aload_n hx hb dX4_isAt_12 rfl (lv_at hl 0 rfl) ?_
    refine fl_get4 (v := .int (μ.1 5 6)) kyf_5 F hW 6 (by decide) q_83 rfl rfl dX4_isAt_13 ?_
    refine lv_isub hx hb dX4_isAt_16 ?_
    refine lv_aload_n hx hb dX4_isAt_17 rfl (lv_at hl 1 rfl) ?_
    refine k_J0_length F ha1 q_617 ⟨Nat.le_of_ble_eq_true rfl, Nat.le_of_ble_eq_true rfl, Nat.le_of_ble_eq_true rfl, Nat.le_of_ble_eq_true rfl⟩ hW hS hl.1 (Nat.le_of_ble_eq_true rfl) dX4_isAt_18 (fun H locs hW hS => ?_)
    refine lv_icmp_eq (tgt := 26) hx hb dX4_isAt_21 (by decide) (fun cc => ?_) (fun cc => ?_)
    · replace h := (if_pos cc).symm.trans h
      refine lv_iconst (v := (0 : Int32)) hx hb dX4_isAt_26 (by decide) ?_
      refine lv_istore_n (lv' := [(2, .int (0 : Int32)), (0, .ref (b + 5)), (1, .ref (G.2.2.1 a1))]) hx hb dX4_isAt_27 rfl hl (by decide) rfl (fun ls hl => ?_)
      exact wk_X4_isAt_28 F hr ha1 n _ _ _ _ h hW hS (lv_sub hl [1, 2, 0] rfl)
    · replace h := (if_neg cc).symm.trans h
      refine lv_iconst (v := (0 : Int32)) hx hb dX4_isAt_24 (by decide) ?_
      cases h
      exact r_bool F hr (Or.inl rfl) hW hS dX4_isAt_25
set_option maxHeartbeats 4000000 in
set_option maxRecDepth 100000 in
theorem c_X4_isAt {l : Launch} {G : Gt} {b : Nat} {n : Nat} {a1 : Nat} {μ : Mm} {out : Int32} (ha1 : a1 < 13) (h : sh_X4_isAt n a1 μ = some out) : Met l yX4_isAt (wU (Cond.code yX4_isAt cX4_isAt 3 (some .boolean))) ({ frames := 4, cells := 0, slots := 0, locals := 86 } : Room) (PcW G b μ [.ref (b + 5), .ref (G.2.2.1 a1)]) (QW G b μ (some (.int out))) 0 0 (fb b) :=
  met_of [.ref (b + 5), .ref (G.2.2.1 a1)] (by decide) (Nat.le_of_ble_eq_true rfl) (fun F hr hW hl => wk_X4_isAt F hr ha1 h hW va_S.rf hl)
set_option maxHeartbeats 4000000 in
set_option maxRecDepth 100000 in
theorem k_X4_isAt {own : String} {nL : Nat} (F : FX G b own cc nL p s m args meth c) {n : Nat} {a1 : Nat} {μ : Mm} {out : Int32} (ha1 : a1 < 13) (h : sh_X4_isAt n a1 μ = some out) {index : Nat} (hl : Cond.methodLink own index yX4_isAt ∈ TBG) (hR : 4 + 1 ≤ R.frames ∧ 8 + (3 + 11) + 86 ≤ R.locals ∧ cells ≤ R.cells ∧ slots ≤ R.slots) (hW : WH G b μ H) (hS : va_S (fb b) s.heap H locs) (hsz : ls.size = nL) (hrest : (rest.map fun v => v.category).sum ≤ 8) (hdg : decode cc pc = .ok (.invokevirtual index, 3))
    (kk : ∀ (H1 : Heap) (locs1 : List Loc), WH G b μ H1 → va_S (fb b) s.heap H1 locs1 → W p l e R s m args below meth c H1 locs1 cells slots Q (F0 m (pc + 3) ls (.int out :: rest))) : W p l e R s m args below meth c H locs cells slots Q (F0 m pc ls (.ref (G.2.2.1 a1) :: .ref (b + 5) :: rest)) :=
  f_callV (As := [.ref (G.2.2.1 a1)]) (ci := 4) (c_X4_isAt ha1 h) ⟨rfl, rfl⟩ rfl (ky_lt kyf_5 (by decide)) (wF_4 kyf_5) q_615 qp_11 q_4 q_616 rfl ⟨by decide +kernel, by decide +kernel, (show (parseMethodDescriptor yX4_isAt.desc).map (fun d => d.parameters.length) = some 1 by decide +kernel)⟩ F hl hR hW hS hsz hrest rfl hdg kk
set_option maxHeartbeats 4000000 in
set_option maxRecDepth 100000 in
theorem wk_X4_fail {a1 : Int32} {μ : Mm} {out : (Int32 × Mm)} (F : FX G b RX4 cX4_fail 2 p s m args meth c) (hr : meth.sig.returnType = some .boolean) (h : sh_X4_fail a1 μ = some out) (hW : WH G b μ H) (hS : va_S (fb b) s.heap H locs) (hl : lv_has ls 2 [(0, .ref (b + 5)), (1, .int a1)]) : W p l e ({ frames := 0, cells := 0, slots := 0, locals := 0 } : Room) s m args below meth c H locs 0 0 (MQ below (QW G b out.2 (some (.int out.1))) args s 0 0 (fb b)) (F0 m 0 ls []) := by
  have hx := F.1
  have hb := F.2.1
  unfold sh_X4_fail at h
  refine lv_aload_n hx hb dX4_fail_0 rfl (lv_at hl 0 rfl) ?_
  refine lv_iload_n hx hb dX4_fail_1 rfl (lv_at hl 1 rfl) ?_
  obtain ⟨μ1, hmμ1, h⟩ := ob h
  refine fl_put4_0 kyf_5 F hW hS q_73 hmμ1 dX4_fail_2 (fun H locs hW hS => ?_)
  refine lv_aload_n hx hb dX4_fail_5 rfl (lv_at hl 0 rfl) ?_
  refine lv_aload_n hx hb dX4_fail_6 rfl (lv_at hl 0 rfl) ?_
  refine fl_get4 (v := .int (μ1.1 5 6)) kyf_5 F hW 6 (by decide) q_83 rfl rfl dX4_fail_7 ?_
  obtain ⟨μ2, hmμ2, h⟩ := ob h
  refine fl_put4_1 kyf_5 F hW hS q_75 hmμ2 dX4_fail_10 (fun H locs hW hS => ?_)
  refine lv_iconst (v := (0 : Int32)) hx hb dX4_fail_13 (by decide) ?_
  cases h
  exact r_bool F hr (Or.inl rfl) hW hS dX4_fail_14
set_option maxHeartbeats 4000000 in
set_option maxRecDepth 100000 in
theorem c_X4_fail {l : Launch} {G : Gt} {b : Nat} {a1 : Int32} {μ : Mm} {out : (Int32 × Mm)} (h : sh_X4_fail a1 μ = some out) : Met l yX4_fail (wU (Cond.code yX4_fail cX4_fail 2 (some .boolean))) ({ frames := 0, cells := 0, slots := 0, locals := 0 } : Room) (PcW G b μ [.ref (b + 5), .int a1]) (QW G b out.2 (some (.int out.1))) 0 0 (fb b) :=
  met_of [.ref (b + 5), .int a1] (by decide) (Nat.le_of_ble_eq_true rfl) (fun F hr hW hl => wk_X4_fail F hr h hW va_S.rf hl)
set_option maxHeartbeats 4000000 in
set_option maxRecDepth 100000 in
theorem k_X4_fail {own : String} {nL : Nat} (F : FX G b own cc nL p s m args meth c) {a1 : Int32} {μ : Mm} {out : (Int32 × Mm)} (h : sh_X4_fail a1 μ = some out) {index : Nat} (hl : Cond.methodLink own index yX4_fail ∈ TBG) (hR : 0 + 1 ≤ R.frames ∧ 8 + (2 + 11) + 0 ≤ R.locals ∧ cells ≤ R.cells ∧ slots ≤ R.slots) (hW : WH G b μ H) (hS : va_S (fb b) s.heap H locs) (hsz : ls.size = nL) (hrest : (rest.map fun v => v.category).sum ≤ 8) (hdg : decode cc pc = .ok (.invokevirtual index, 3))
    (kk : ∀ (H1 : Heap) (locs1 : List Loc), WH G b out.2 H1 → va_S (fb b) s.heap H1 locs1 → W p l e R s m args below meth c H1 locs1 cells slots Q (F0 m (pc + 3) ls (.int out.1 :: rest))) : W p l e R s m args below meth c H locs cells slots Q (F0 m pc ls (.int a1 :: .ref (b + 5) :: rest)) :=
  f_callV (As := [.int a1]) (ci := 4) (c_X4_fail h) ⟨rfl, rfl⟩ rfl (ky_lt kyf_5 (by decide)) (wF_4 kyf_5) q_667 qp_12 q_4 q_668 rfl ⟨by decide +kernel, by decide +kernel, (show (parseMethodDescriptor yX4_fail.desc).map (fun d => d.parameters.length) = some 1 by decide +kernel)⟩ F hl hR hW hS hsz hrest rfl hdg kk
set_option maxHeartbeats 4000000 in
set_option maxRecDepth 100000 in
theorem wk_X4_number {n : Nat} {a1 : Nat} {a2 : Int32} {a3 : Int32} {a4 : Nat} {a5 : Int32} {μ : Mm} {out : (Int32 × Mm)} (F : FX G b RX4 cX4_number 6 p s m args meth c) (hr : meth.sig.returnType = some .boolean) (ha1 : a1 < 13) (ha4 : okRo a4) (h : sh_X4_number n a1 a2 a3 a4 a5 μ = some out) (hW : WH G b μ H) (hS : va_S (fb b) s.heap H locs) (hl : lv_has ls 6 [(0, .ref (b + 5)), (1, .ref (G.2.2.1 a1)), (2, .int a2), (3, .int a3), (4, .ref (b + a4)), (5, .int a5)]) : W p l e ({ frames := 5, cells := 0, slots := 0, locals := 108 } : Room) s m args below meth c H locs 0 0 (MQ below (QW G b out.2 (some (.int out.1))) args s 0 0 (fb b)) (F0 m 0 ls []) := by
  have hx := F.1
  have hb := F.2.1
  unfold sh_X4_number at h
  refine lv_aload_n hx hb dX4_number_0 rfl (lv_at hl 0 rfl) ?_
  refine lv_aload_n hx hb dX4_number_1 rfl (lv_at hl 1 rfl) ?_
  obtain ⟨r1, qr1, h⟩ := ob h
  refine k_X4_isAt F ha1 qr1 q_613 ⟨Nat.le_of_ble_eq_true rfl, Nat.le_of_ble_eq_true rfl, Nat.le_of_ble_eq_true rfl, Nat.le_of_ble_eq_true rfl⟩ hW hS hl.1 (Nat.le_of_ble_eq_true rfl) dX4_number_2 (fun H locs hW hS => ?_)
  refine lv_if_ne (tgt := 14) hx hb dX4_number_5 (by decide) (fun cc => ?_) (fun cc => ?_)
  · replace h := (if_neg cc).symm.trans h
    refine lv_aload_n hx hb dX4_number_14 rfl (lv_at hl 0 rfl) ?_
    obtain ⟨r2, qr2, h⟩ := ob h
    refine k_X4_advance F qr2 q_591 ⟨Nat.le_of_ble_eq_true rfl, Nat.le_of_ble_eq_true rfl, Nat.le_of_ble_eq_true rfl, Nat.le_of_ble_eq_true rfl⟩ hW hS hl.1 (Nat.le_of_ble_eq_true rfl) dX4_number_15 (fun H locs hW hS => ?_)
    refine lv_aload_n hx hb dX4_number_18 rfl (lv_at hl 0 rfl) ?_
    refine fl_get4 (v := .int (r2.1 5 5)) kyf_5 F hW 5 (by decide) q_82 rfl rfl dX4_number_19 ?_
    refine lv_iconst (v := (2 : Int32)) hx hb dX4_number_22 (by decide) ?_
    refine lv_icmp_eq (tgt := 32) hx hb dX4_number_23 (by decide) (fun cc => ?_) (fun cc => ?_)
    · replace h := (if_pos cc).symm.trans h
      refine lv_aload_n hx hb dX4_number_32 rfl (lv_at hl 0 rfl) ?_
      refine fl_get4 (v := .int (r2.1 5 8)) kyf_5 F hW 8 (by decide) q_85 rfl rfl dX4_number_33 ?_
      refine lv_iload_n hx hb dX4_number_36 rfl (lv_at hl 2 rfl) ?_
      refine lv_icmp_lt (tgt := 48) hx hb dX4_number_37 (by decide) (fun cc => ?_) (fun cc => ?_)
      · replace h := (if_pos cc).symm.trans h
        refine lv_aload_n hx hb dX4_number_48 rfl (lv_at hl 0 rfl) ?_
        refine lv_iconst (v := (2 : Int32)) hx hb dX4_number_49 (by decide) ?_
        obtain ⟨r3, qr3, h⟩ := ob h
        refine k_X4_fail F qr3 q_665 ⟨Nat.le_of_ble_eq_true rfl, Nat.le_of_ble_eq_true rfl, Nat.le_of_ble_eq_true rfl, Nat.le_of_ble_eq_true rfl⟩ hW hS hl.1 (Nat.le_of_ble_eq_true rfl) dX4_number_50 (fun H locs hW hS => ?_)
        obtain ⟨v4, qv4, h⟩ := ob h
        obtain ⟨zv4, qv4⟩ := isB_some qv4
        rw [qv4] at zv4
        rw [qv4]
        cases h
        exact r_bool F hr zv4 hW hS dX4_number_53
      · replace h := (if_neg cc).symm.trans h
        refine lv_aload_n hx hb dX4_number_40 rfl (lv_at hl 0 rfl) ?_
        refine fl_get4 (v := .int (r2.1 5 8)) kyf_5 F hW 8 (by decide) q_85 rfl rfl dX4_number_41 ?_
        refine lv_iload_n hx hb dX4_number_44 rfl (lv_at hl 3 rfl) ?_
        refine lv_icmp_le (tgt := 54) hx hb dX4_number_45 (by decide) (fun cc => ?_) (fun cc => ?_)
        · replace h := (if_pos cc).symm.trans h
          refine lv_aload hx hb dX4_number_54 (lv_at hl 4 rfl) ?_
          refine lv_iload hx hb dX4_number_56 (lv_at hl 5 rfl) ?_
          refine lv_aload_n hx hb dX4_number_58 rfl (lv_at hl 0 rfl) ?_
          refine fl_get4 (v := .int (r2.1 5 8)) kyf_5 F hW 8 (by decide) q_85 rfl rfl dX4_number_59 ?_
          obtain ⟨r5, qr5, h⟩ := ob h
          refine k_X5_put F ha4 qr5 q_674 ⟨Nat.le_of_ble_eq_true rfl, Nat.le_of_ble_eq_true rfl, Nat.le_of_ble_eq_true rfl, Nat.le_of_ble_eq_true rfl⟩ hW hS hl.1 (Nat.le_of_ble_eq_true rfl) dX4_number_62 (fun H locs hW hS => ?_)
          refine lv_aload_n hx hb dX4_number_65 rfl (lv_at hl 0 rfl) ?_
          obtain ⟨r6, qr6, h⟩ := ob h
          refine k_X4_advance F qr6 q_591 ⟨Nat.le_of_ble_eq_true rfl, Nat.le_of_ble_eq_true rfl, Nat.le_of_ble_eq_true rfl, Nat.le_of_ble_eq_true rfl⟩ hW hS hl.1 (Nat.le_of_ble_eq_true rfl) dX4_number_66 (fun H locs hW hS => ?_)
          refine lv_iconst (v := (1 : Int32)) hx hb dX4_number_69 (by decide) ?_
          cases h
          exact r_bool F hr (Or.inr rfl) hW hS dX4_number_70
        · replace h := (if_neg cc).symm.trans h
          refine lv_aload_n hx hb dX4_number_48 rfl (lv_at hl 0 rfl) ?_
          refine lv_iconst (v := (2 : Int32)) hx hb dX4_number_49 (by decide) ?_
          obtain ⟨r7, qr7, h⟩ := ob h
          refine k_X4_fail F qr7 q_665 ⟨Nat.le_of_ble_eq_true rfl, Nat.le_of_ble_eq_true rfl, Nat.le_of_ble_eq_true rfl, Nat.le_of_ble_eq_true rfl⟩ hW hS hl.1 (Nat.le_of_ble_eq_true rfl) dX4_number_50 (fun H locs hW hS => ?_)
          obtain ⟨v8, qv8, h⟩ := ob h
          obtain ⟨zv8, qv8⟩ := isB_some qv8
          rw [qv8] at zv8
          rw [qv8]
          cases h
          exact r_bool F hr zv8 hW hS dX4_number_53
    · replace h := (if_neg cc).symm.trans h
      refine lv_aload_n hx hb dX4_number_26 rfl (lv_at hl 0 rfl) ?_
      refine lv_iconst (v := (1 : Int32)) hx hb dX4_number_27 (by decide) ?_
      obtain ⟨r9, qr9, h⟩ := ob h
      refine k_X4_fail F qr9 q_665 ⟨Nat.le_of_ble_eq_true rfl, Nat.le_of_ble_eq_true rfl, Nat.le_of_ble_eq_true rfl, Nat.le_of_ble_eq_true rfl⟩ hW hS hl.1 (Nat.le_of_ble_eq_true rfl) dX4_number_28 (fun H locs hW hS => ?_)
      obtain ⟨v10, qv10, h⟩ := ob h
      obtain ⟨zv10, qv10⟩ := isB_some qv10
      rw [qv10] at zv10
      rw [qv10]
      cases h
      exact r_bool F hr zv10 hW hS dX4_number_31
  · replace h := (if_pos cc).symm.trans h
    refine lv_aload_n hx hb dX4_number_8 rfl (lv_at hl 0 rfl) ?_
    refine lv_iconst (v := (1 : Int32)) hx hb dX4_number_9 (by decide) ?_
    obtain ⟨r11, qr11, h⟩ := ob h
    refine k_X4_fail F qr11 q_665 ⟨Nat.le_of_ble_eq_true rfl, Nat.le_of_ble_eq_true rfl, Nat.le_of_ble_eq_true rfl, Nat.le_of_ble_eq_true rfl⟩ hW hS hl.1 (Nat.le_of_ble_eq_true rfl) dX4_number_10 (fun H locs hW hS => ?_)
    obtain ⟨v12, qv12, h⟩ := ob h
    obtain ⟨zv12, qv12⟩ := isB_some qv12
    rw [qv12] at zv12
    rw [qv12]
    cases h
    exact r_bool F hr zv12 hW hS dX4_number_13
set_option maxHeartbeats 4000000 in
set_option maxRecDepth 100000 in
theorem c_X4_number {l : Launch} {G : Gt} {b : Nat} {n : Nat} {a1 : Nat} {a2 : Int32} {a3 : Int32} {a4 : Nat} {a5 : Int32} {μ : Mm} {out : (Int32 × Mm)} (ha1 : a1 < 13) (ha4 : okRo a4) (h : sh_X4_number n a1 a2 a3 a4 a5 μ = some out) : Met l yX4_number (wU (Cond.code yX4_number cX4_number 6 (some .boolean))) ({ frames := 5, cells := 0, slots := 0, locals := 108 } : Room) (PcW G b μ [.ref (b + 5), .ref (G.2.2.1 a1), .int a2, .int a3, .ref (b + a4), .int a5]) (QW G b out.2 (some (.int out.1))) 0 0 (fb b) :=
  met_of [.ref (b + 5), .ref (G.2.2.1 a1), .int a2, .int a3, .ref (b + a4), .int a5] (by decide) (Nat.le_of_ble_eq_true rfl) (fun F hr hW hl => wk_X4_number F hr ha1 ha4 h hW va_S.rf hl)
set_option maxHeartbeats 4000000 in
set_option maxRecDepth 100000 in
theorem k_X4_number {own : String} {nL : Nat} (F : FX G b own cc nL p s m args meth c) {n : Nat} {a1 : Nat} {a2 : Int32} {a3 : Int32} {a4 : Nat} {a5 : Int32} {μ : Mm} {out : (Int32 × Mm)} (ha1 : a1 < 13) (ha4 : okRo a4) (h : sh_X4_number n a1 a2 a3 a4 a5 μ = some out) {index : Nat} (hl : Cond.methodLink own index yX4_number ∈ TBG) (hR : 5 + 1 ≤ R.frames ∧ 8 + (6 + 11) + 108 ≤ R.locals ∧ cells ≤ R.cells ∧ slots ≤ R.slots) (hW : WH G b μ H) (hS : va_S (fb b) s.heap H locs) (hsz : ls.size = nL) (hrest : (rest.map fun v => v.category).sum ≤ 8) (hdg : decode cc pc = .ok (.invokevirtual index, 3))
    (kk : ∀ (H1 : Heap) (locs1 : List Loc), WH G b out.2 H1 → va_S (fb b) s.heap H1 locs1 → W p l e R s m args below meth c H1 locs1 cells slots Q (F0 m (pc + 3) ls (.int out.1 :: rest))) : W p l e R s m args below meth c H locs cells slots Q (F0 m pc ls (.int a5 :: .ref (b + a4) :: .int a3 :: .int a2 :: .ref (G.2.2.1 a1) :: .ref (b + 5) :: rest)) :=
  f_callV (As := [.ref (G.2.2.1 a1), .int a2, .int a3, .ref (b + a4), .int a5]) (ci := 4) (c_X4_number ha1 ha4 h) ⟨rfl, rfl⟩ rfl (ky_lt kyf_5 (by decide)) (wF_4 kyf_5) q_672 qp_13 q_4 q_673 rfl ⟨by decide +kernel, by decide +kernel, (show (parseMethodDescriptor yX4_number.desc).map (fun d => d.parameters.length) = some 5 by decide +kernel)⟩ F hl hR hW hS hsz hrest rfl hdg kk
set_option maxHeartbeats 4000000 in
set_option maxRecDepth 100000 in
theorem wk_X4_semicolon {n : Nat} {μ : Mm} {out : (Int32 × Mm)} (F : FX G b RX4 cX4_semicolon 1 p s m args meth c) (hr : meth.sig.returnType = some .boolean) (h : sh_X4_semicolon n  μ = some out) (hW : WH G b μ H) (hS : va_S (fb b) s.heap H locs) (hl : lv_has ls 1 [(0, .ref (b + 5))]) : W p l e ({ frames := 2, cells := 0, slots := 0, locals := 42 } : Room) s m args below meth c H locs 0 0 (MQ below (QW G b out.2 (some (.int out.1))) args s 0 0 (fb b)) (F0 m 0 ls []) := by
  have hx := F.1
  have hb := F.2.1
  unfold sh_X4_semicolon at h
  refine lv_aload_n hx hb dX4_semicolon_0 rfl (lv_at hl 0 rfl) ?_
  refine fl_get4 (v := .int (μ.1 5 5)) kyf_5 F hW 5 (by decide) q_82 rfl rfl dX4_semicolon_1 ?_
  refine lv_iconst (v := (3 : Int32)) hx hb dX4_semicolon_4 (by decide) ?_
  refine lv_icmp_ne (tgt := 24) hx hb dX4_semicolon_5 (by decide) (fun cc => ?_) (fun cc => ?_)
  · replace h := (if_neg cc).symm.trans h
    refine lv_aload_n hx hb dX4_semicolon_24 rfl (lv_at hl 0 rfl) ?_
    refine lv_iconst (v := (1 : Int32)) hx hb dX4_semicolon_25 (by decide) ?_
    obtain ⟨r1, qr1, h⟩ := ob h
    refine k_X4_fail F qr1 q_665 ⟨Nat.le_of_ble_eq_true rfl, Nat.le_of_ble_eq_true rfl, Nat.le_of_ble_eq_true rfl, Nat.le_of_ble_eq_true rfl⟩ hW hS hl.1 (Nat.le_of_ble_eq_true rfl) dX4_semicolon_26 (fun H locs hW hS => ?_)
    obtain ⟨v2, qv2, h⟩ := ob h
    obtain ⟨zv2, qv2⟩ := isB_some qv2
    rw [qv2] at zv2
    rw [qv2]
    cases h
    exact r_bool F hr zv2 hW hS dX4_semicolon_29
  · replace h := (if_pos cc).symm.trans h
    refine lv_aload_n hx hb dX4_semicolon_8 rfl (lv_at hl 0 rfl) ?_
    have pf3 := hW.2.2
    refine fl_get4 (v := .ref (b + (μ.2.2 1))) kyf_5 F hW 4 (by decide) q_81 rfl rfl dX4_semicolon_9 ?_
    refine lv_aload_n hx hb dX4_semicolon_12 rfl (lv_at hl 0 rfl) ?_
    refine fl_get4 (v := .int (μ.1 5 6)) kyf_5 F hW 6 (by decide) q_83 rfl rfl dX4_semicolon_13 ?_
    obtain ⟨r4, qr4, h⟩ := ob h
    refine k_X8_at F pf3 qr4 q_599 ⟨Nat.le_of_ble_eq_true rfl, Nat.le_of_ble_eq_true rfl, Nat.le_of_ble_eq_true rfl, Nat.le_of_ble_eq_true rfl⟩ hW hS hl.1 (Nat.le_of_ble_eq_true rfl) dX4_semicolon_16 (fun H locs hW hS => ?_)
    refine lv_bipush (v := (59 : Int32)) hx hb dX4_semicolon_19 (by decide) ?_
    refine lv_icmp_eq (tgt := 30) hx hb dX4_semicolon_21 (by decide) (fun cc => ?_) (fun cc => ?_)
    · replace h := (if_pos cc).symm.trans h
      refine lv_aload_n hx hb dX4_semicolon_30 rfl (lv_at hl 0 rfl) ?_
      obtain ⟨r5, qr5, h⟩ := ob h
      refine k_X4_advance F qr5 q_591 ⟨Nat.le_of_ble_eq_true rfl, Nat.le_of_ble_eq_true rfl, Nat.le_of_ble_eq_true rfl, Nat.le_of_ble_eq_true rfl⟩ hW hS hl.1 (Nat.le_of_ble_eq_true rfl) dX4_semicolon_31 (fun H locs hW hS => ?_)
      refine lv_iconst (v := (1 : Int32)) hx hb dX4_semicolon_34 (by decide) ?_
      cases h
      exact r_bool F hr (Or.inr rfl) hW hS dX4_semicolon_35
    · replace h := (if_neg cc).symm.trans h
      refine lv_aload_n hx hb dX4_semicolon_24 rfl (lv_at hl 0 rfl) ?_
      refine lv_iconst (v := (1 : Int32)) hx hb dX4_semicolon_25 (by decide) ?_
      obtain ⟨r6, qr6, h⟩ := ob h
      refine k_X4_fail F qr6 q_665 ⟨Nat.le_of_ble_eq_true rfl, Nat.le_of_ble_eq_true rfl, Nat.le_of_ble_eq_true rfl, Nat.le_of_ble_eq_true rfl⟩ hW hS hl.1 (Nat.le_of_ble_eq_true rfl) dX4_semicolon_26 (fun H locs hW hS => ?_)
      obtain ⟨v7, qv7, h⟩ := ob h
      obtain ⟨zv7, qv7⟩ := isB_some qv7
      rw [qv7] at zv7
      rw [qv7]
      cases h
      exact r_bool F hr zv7 hW hS dX4_semicolon_29
set_option maxHeartbeats 4000000 in
set_option maxRecDepth 100000 in
theorem c_X4_semicolon {l : Launch} {G : Gt} {b : Nat} {n : Nat} {μ : Mm} {out : (Int32 × Mm)} (h : sh_X4_semicolon n  μ = some out) : Met l yX4_semicolon (wU (Cond.code yX4_semicolon cX4_semicolon 1 (some .boolean))) ({ frames := 2, cells := 0, slots := 0, locals := 42 } : Room) (PcW G b μ [.ref (b + 5)]) (QW G b out.2 (some (.int out.1))) 0 0 (fb b) :=
  met_of [.ref (b + 5)] (by decide) (Nat.le_of_ble_eq_true rfl) (fun F hr hW hl => wk_X4_semicolon F hr h hW va_S.rf hl)
set_option maxHeartbeats 4000000 in
set_option maxRecDepth 100000 in
theorem k_X4_semicolon {own : String} {nL : Nat} (F : FX G b own cc nL p s m args meth c) {n : Nat} {μ : Mm} {out : (Int32 × Mm)} (h : sh_X4_semicolon n  μ = some out) {index : Nat} (hl : Cond.methodLink own index yX4_semicolon ∈ TBG) (hR : 2 + 1 ≤ R.frames ∧ 8 + (1 + 11) + 42 ≤ R.locals ∧ cells ≤ R.cells ∧ slots ≤ R.slots) (hW : WH G b μ H) (hS : va_S (fb b) s.heap H locs) (hsz : ls.size = nL) (hrest : (rest.map fun v => v.category).sum ≤ 8) (hdg : decode cc pc = .ok (.invokevirtual index, 3))
    (kk : ∀ (H1 : Heap) (locs1 : List Loc), WH G b out.2 H1 → va_S (fb b) s.heap H1 locs1 → W p l e R s m args below meth c H1 locs1 cells slots Q (F0 m (pc + 3) ls (.int out.1 :: rest))) : W p l e R s m args below meth c H locs cells slots Q (F0 m pc ls (.ref (b + 5) :: rest)) :=
  f_callV (As := []) (ci := 4) (c_X4_semicolon h) ⟨rfl, rfl⟩ rfl (ky_lt kyf_5 (by decide)) (wF_4 kyf_5) q_679 qp_14 q_4 q_680 rfl ⟨by decide +kernel, by decide +kernel, (show (parseMethodDescriptor yX4_semicolon.desc).map (fun d => d.parameters.length) = some 0 by decide +kernel)⟩ F hl hR hW hS hsz hrest rfl hdg kk
set_option maxHeartbeats 4000000 in
set_option maxRecDepth 100000 in
theorem wk_X4_bookStatement {n : Nat} {a1 : Nat} {μ : Mm} {out : (Int32 × Mm)} (F : FX G b RX4 cX4_bookStatement 2 p s m args meth c) (hr : meth.sig.returnType = some .boolean) (ha1 : okBk a1) (h : sh_X4_bookStatement n a1 μ = some out) (hW : WH G b μ H) (hS : va_S (fb b) s.heap H locs) (hl : lv_has ls 2 [(0, .ref (b + 5)), (1, .ref (b + a1))]) : W p l e ({ frames := 6, cells := 0, slots := 0, locals := 133 } : Room) s m args below meth c H locs 0 0 (MQ below (QW G b out.2 (some (.int out.1))) args s 0 0 (fb b)) (F0 m 0 ls []) := by
  have hx := F.1
  have hb := F.2.1
  unfold sh_X4_bookStatement at h
  refine lv_aload_n hx hb dX4_bookStatement_0 rfl (lv_at hl 0 rfl) ?_
  refine fl_ldcS (index := 121) (tx := "book") (t := 0) (by decide +kernel) F dX4_bookStatement_1 ?_
  obtain ⟨r1, qr1, h⟩ := ob h
  refine k_X4_isAt F (by decide) qr1 q_613 ⟨Nat.le_of_ble_eq_true rfl, Nat.le_of_ble_eq_true rfl, Nat.le_of_ble_eq_true rfl, Nat.le_of_ble_eq_true rfl⟩ hW hS hl.1 (Nat.le_of_ble_eq_true rfl) dX4_bookStatement_3 (fun H locs hW hS => ?_)
  refine lv_if_ne (tgt := 15) hx hb dX4_bookStatement_6 (by decide) (fun cc => ?_) (fun cc => ?_)
  · replace h := (if_neg cc).symm.trans h
    refine lv_aload_n hx hb dX4_bookStatement_15 rfl (lv_at hl 0 rfl) ?_
    obtain ⟨r2, qr2, h⟩ := ob h
    refine k_X4_advance F qr2 q_591 ⟨Nat.le_of_ble_eq_true rfl, Nat.le_of_ble_eq_true rfl, Nat.le_of_ble_eq_true rfl, Nat.le_of_ble_eq_true rfl⟩ hW hS hl.1 (Nat.le_of_ble_eq_true rfl) dX4_bookStatement_16 (fun H locs hW hS => ?_)
    refine lv_aload_n hx hb dX4_bookStatement_19 rfl (lv_at hl 0 rfl) ?_
    refine fl_ldcS (index := 123) (tx := "width") (t := 1) (by decide +kernel) F dX4_bookStatement_20 ?_
    refine lv_bipush (v := (20 : Int32)) hx hb dX4_bookStatement_22 (by decide) ?_
    refine lv_bipush (v := (120 : Int32)) hx hb dX4_bookStatement_24 (by decide) ?_
    refine lv_aload_n hx hb dX4_bookStatement_26 rfl (lv_at hl 1 rfl) ?_
    refine fl_get0 (v := .ref (b + (a1 + 1))) (ha1).1 F hW 0 (by decide) q_153 rfl rfl dX4_bookStatement_27 ?_
    refine lv_iconst (v := (0 : Int32)) hx hb dX4_bookStatement_30 (by decide) ?_
    obtain ⟨r3, qr3, h⟩ := ob h
    refine k_X4_number F (by decide) (ha1).2.1 qr3 q_670 ⟨Nat.le_of_ble_eq_true rfl, Nat.le_of_ble_eq_true rfl, Nat.le_of_ble_eq_true rfl, Nat.le_of_ble_eq_true rfl⟩ hW hS hl.1 (Nat.le_of_ble_eq_true rfl) dX4_bookStatement_31 (fun H locs hW hS => ?_)
    refine lv_if_eq (tgt := 82) hx hb dX4_bookStatement_34 (by decide) (fun cc => ?_) (fun cc => ?_)
    · replace h := (if_pos cc).symm.trans h
      refine lv_iconst (v := (0 : Int32)) hx hb dX4_bookStatement_82 (by decide) ?_
      cases h
      exact r_bool F hr (Or.inl rfl) hW hS dX4_bookStatement_83
    · replace h := (if_neg cc).symm.trans h
      refine lv_aload_n hx hb dX4_bookStatement_37 rfl (lv_at hl 0 rfl) ?_
      refine fl_ldcS (index := 133) (tx := "lines") (t := 2) (by decide +kernel) F dX4_bookStatement_38 ?_
      refine lv_iconst (v := (2 : Int32)) hx hb dX4_bookStatement_40 (by decide) ?_
      refine lv_bipush (v := (60 : Int32)) hx hb dX4_bookStatement_41 (by decide) ?_
      refine lv_aload_n hx hb dX4_bookStatement_43 rfl (lv_at hl 1 rfl) ?_
      refine fl_get0 (v := .ref (b + (a1 + 1))) (ha1).1 F hW 0 (by decide) q_153 rfl rfl dX4_bookStatement_44 ?_
      refine lv_iconst (v := (1 : Int32)) hx hb dX4_bookStatement_47 (by decide) ?_
      obtain ⟨r4, qr4, h⟩ := ob h
      refine k_X4_number F (by decide) (ha1).2.1 qr4 q_670 ⟨Nat.le_of_ble_eq_true rfl, Nat.le_of_ble_eq_true rfl, Nat.le_of_ble_eq_true rfl, Nat.le_of_ble_eq_true rfl⟩ hW hS hl.1 (Nat.le_of_ble_eq_true rfl) dX4_bookStatement_48 (fun H locs hW hS => ?_)
      refine lv_if_eq (tgt := 82) hx hb dX4_bookStatement_51 (by decide) (fun cc => ?_) (fun cc => ?_)
      · replace h := (if_pos cc).symm.trans h
        refine lv_iconst (v := (0 : Int32)) hx hb dX4_bookStatement_82 (by decide) ?_
        cases h
        exact r_bool F hr (Or.inl rfl) hW hS dX4_bookStatement_83
      · replace h := (if_neg cc).symm.trans h
        refine lv_aload_n hx hb dX4_bookStatement_54 rfl (lv_at hl 0 rfl) ?_
        refine fl_ldcS (index := 135) (tx := "page") (t := 3) (by decide +kernel) F dX4_bookStatement_55 ?_
        refine lv_iconst (v := (5 : Int32)) hx hb dX4_bookStatement_57 (by decide) ?_
        refine lv_bipush (v := (99 : Int32)) hx hb dX4_bookStatement_58 (by decide) ?_
        refine lv_aload_n hx hb dX4_bookStatement_60 rfl (lv_at hl 1 rfl) ?_
        refine fl_get0 (v := .ref (b + (a1 + 1))) (ha1).1 F hW 0 (by decide) q_153 rfl rfl dX4_bookStatement_61 ?_
        refine lv_iconst (v := (2 : Int32)) hx hb dX4_bookStatement_64 (by decide) ?_
        obtain ⟨r5, qr5, h⟩ := ob h
        refine k_X4_number F (by decide) (ha1).2.1 qr5 q_670 ⟨Nat.le_of_ble_eq_true rfl, Nat.le_of_ble_eq_true rfl, Nat.le_of_ble_eq_true rfl, Nat.le_of_ble_eq_true rfl⟩ hW hS hl.1 (Nat.le_of_ble_eq_true rfl) dX4_bookStatement_65 (fun H locs hW hS => ?_)
        refine lv_if_eq (tgt := 82) hx hb dX4_bookStatement_68 (by decide) (fun cc => ?_) (fun cc => ?_)
        · replace h := (if_pos cc).symm.trans h
          refine lv_iconst (v := (0 : Int32)) hx hb dX4_bookStatement_82 (by decide) ?_
          cases h
          exact r_bool F hr (Or.inl rfl) hW hS dX4_bookStatement_83
        · replace h := (if_neg cc).symm.trans h
          refine lv_aload_n hx hb dX4_bookStatement_71 rfl (lv_at hl 0 rfl) ?_
          obtain ⟨r6, qr6, h⟩ := ob h
          refine k_X4_semicolon F qr6 q_677 ⟨Nat.le_of_ble_eq_true rfl, Nat.le_of_ble_eq_true rfl, Nat.le_of_ble_eq_true rfl, Nat.le_of_ble_eq_true rfl⟩ hW hS hl.1 (Nat.le_of_ble_eq_true rfl) dX4_bookStatement_72 (fun H locs hW hS => ?_)
          refine lv_if_eq (tgt := 82) hx hb dX4_bookStatement_75 (by decide) (fun cc => ?_) (fun cc => ?_)
          · replace h := (if_pos cc).symm.trans h
            refine lv_iconst (v := (0 : Int32)) hx hb dX4_bookStatement_82 (by decide) ?_
            cases h
            exact r_bool F hr (Or.inl rfl) hW hS dX4_bookStatement_83
          · replace h := (if_neg cc).symm.trans h
            refine lv_iconst (v := (1 : Int32)) hx hb dX4_bookStatement_78 (by decide) ?_
            refine lv_goto (tgt := 83) hx hb dX4_bookStatement_79 (by decide) ?_
            cases h
            exact r_bool F hr (Or.inr rfl) hW hS dX4_bookStatement_83
  · replace h := (if_pos cc).symm.trans h
    refine lv_aload_n hx hb dX4_bookStatement_9 rfl (lv_at hl 0 rfl) ?_
    refine lv_iconst (v := (1 : Int32)) hx hb dX4_bookStatement_10 (by decide) ?_
    obtain ⟨r7, qr7, h⟩ := ob h
    refine k_X4_fail F qr7 q_665 ⟨Nat.le_of_ble_eq_true rfl, Nat.le_of_ble_eq_true rfl, Nat.le_of_ble_eq_true rfl, Nat.le_of_ble_eq_true rfl⟩ hW hS hl.1 (Nat.le_of_ble_eq_true rfl) dX4_bookStatement_11 (fun H locs hW hS => ?_)
    obtain ⟨v8, qv8, h⟩ := ob h
    obtain ⟨zv8, qv8⟩ := isB_some qv8
    rw [qv8] at zv8
    rw [qv8]
    cases h
    exact r_bool F hr zv8 hW hS dX4_bookStatement_14
set_option maxHeartbeats 4000000 in
set_option maxRecDepth 100000 in
theorem c_X4_bookStatement {l : Launch} {G : Gt} {b : Nat} {n : Nat} {a1 : Nat} {μ : Mm} {out : (Int32 × Mm)} (ha1 : okBk a1) (h : sh_X4_bookStatement n a1 μ = some out) : Met l yX4_bookStatement (wU (Cond.code yX4_bookStatement cX4_bookStatement 2 (some .boolean))) ({ frames := 6, cells := 0, slots := 0, locals := 133 } : Room) (PcW G b μ [.ref (b + 5), .ref (b + a1)]) (QW G b out.2 (some (.int out.1))) 0 0 (fb b) :=
  met_of [.ref (b + 5), .ref (b + a1)] (by decide) (Nat.le_of_ble_eq_true rfl) (fun F hr hW hl => wk_X4_bookStatement F hr ha1 h hW va_S.rf hl)
set_option maxHeartbeats 4000000 in
set_option maxRecDepth 100000 in
theorem k_X4_bookStatement {own : String} {nL : Nat} (F : FX G b own cc nL p s m args meth c) {n : Nat} {a1 : Nat} {μ : Mm} {out : (Int32 × Mm)} (ha1 : okBk a1) (h : sh_X4_bookStatement n a1 μ = some out) {index : Nat} (hl : Cond.methodLink own index yX4_bookStatement ∈ TBG) (hR : 6 + 1 ≤ R.frames ∧ 8 + (2 + 11) + 133 ≤ R.locals ∧ cells ≤ R.cells ∧ slots ≤ R.slots) (hW : WH G b μ H) (hS : va_S (fb b) s.heap H locs) (hsz : ls.size = nL) (hrest : (rest.map fun v => v.category).sum ≤ 8) (hdg : decode cc pc = .ok (.invokevirtual index, 3))
    (kk : ∀ (H1 : Heap) (locs1 : List Loc), WH G b out.2 H1 → va_S (fb b) s.heap H1 locs1 → W p l e R s m args below meth c H1 locs1 cells slots Q (F0 m (pc + 3) ls (.int out.1 :: rest))) : W p l e R s m args below meth c H locs cells slots Q (F0 m pc ls (.ref (b + a1) :: .ref (b + 5) :: rest)) :=
  f_callV (As := [.ref (b + a1)]) (ci := 4) (c_X4_bookStatement ha1 h) ⟨rfl, rfl⟩ rfl (ky_lt kyf_5 (by decide)) (wF_4 kyf_5) q_610 qp_10 q_4 q_611 rfl ⟨by decide +kernel, by decide +kernel, (show (parseMethodDescriptor yX4_bookStatement.desc).map (fun d => d.parameters.length) = some 1 by decide +kernel)⟩ F hl hR hW hS hsz hrest rfl hdg kk
set_option maxHeartbeats 4000000 in
set_option maxRecDepth 100000 in
theorem wk_X4_styleStatement {n : Nat} {a1 : Nat} {μ : Mm} {out : (Int32 × Mm)} (F : FX G b RX4 cX4_styleStatement 2 p s m args meth c) (hr : meth.sig.returnType = some .boolean) (ha1 : okBk a1) (h : sh_X4_styleStatement n a1 μ = some out) (hW : WH G b μ H) (hS : va_S (fb b) s.heap H locs) (hl : lv_has ls 2 [(0, .ref (b + 5)), (1, .ref (b + a1))]) : W p l e ({ frames := 6, cells := 0, slots := 0, locals := 133 } : Room) s m args below meth c H locs 0 0 (MQ below (QW G b out.2 (some (.int out.1))) args s 0 0 (fb b)) (F0 m 0 ls []) := by
  have hx := F.1
  have hb := F.2.1
  unfold sh_X4_styleStatement at h
  refine lv_aload_n hx hb dX4_styleStatement_0 rfl (lv_at hl 0 rfl) ?_
  refine fl_get4 (v := .int (μ.1 5 9)) kyf_5 F hW 9 (by decide) q_86 rfl rfl dX4_styleStatement_1 ?_
  refine lv_if_eq (tgt := 13) hx hb dX4_styleStatement_4 (by decide) (fun cc => ?_) (fun cc => ?_)
  · replace h := (if_pos cc).symm.trans h
    refine lv_aload_n hx hb dX4_styleStatement_13 rfl (lv_at hl 0 rfl) ?_
    refine lv_iconst (v := (1 : Int32)) hx hb dX4_styleStatement_14 (by decide) ?_
    obtain ⟨μ1, hmμ1, h⟩ := ob h
    refine fl_put4_9 kyf_5 F hW hS q_86 hmμ1 dX4_styleStatement_15 (fun H locs hW hS => ?_)
    refine lv_aload_n hx hb dX4_styleStatement_18 rfl (lv_at hl 0 rfl) ?_
    obtain ⟨r2, qr2, h⟩ := ob h
    refine k_X4_advance F qr2 q_591 ⟨Nat.le_of_ble_eq_true rfl, Nat.le_of_ble_eq_true rfl, Nat.le_of_ble_eq_true rfl, Nat.le_of_ble_eq_true rfl⟩ hW hS hl.1 (Nat.le_of_ble_eq_true rfl) dX4_styleStatement_19 (fun H locs hW hS => ?_)
    refine lv_aload_n hx hb dX4_styleStatement_22 rfl (lv_at hl 0 rfl) ?_
    refine fl_ldcS (index := 160) (tx := "indent") (t := 5) (by decide +kernel) F dX4_styleStatement_23 ?_
    refine lv_iconst (v := (0 : Int32)) hx hb dX4_styleStatement_25 (by decide) ?_
    refine lv_bipush (v := (9 : Int32)) hx hb dX4_styleStatement_26 (by decide) ?_
    refine lv_aload_n hx hb dX4_styleStatement_28 rfl (lv_at hl 1 rfl) ?_
    refine fl_get0 (v := .ref (b + (a1 + 1))) (ha1).1 F hW 0 (by decide) q_153 rfl rfl dX4_styleStatement_29 ?_
    refine lv_iconst (v := (3 : Int32)) hx hb dX4_styleStatement_32 (by decide) ?_
    obtain ⟨r3, qr3, h⟩ := ob h
    refine k_X4_number F (by decide) (ha1).2.1 qr3 q_670 ⟨Nat.le_of_ble_eq_true rfl, Nat.le_of_ble_eq_true rfl, Nat.le_of_ble_eq_true rfl, Nat.le_of_ble_eq_true rfl⟩ hW hS hl.1 (Nat.le_of_ble_eq_true rfl) dX4_styleStatement_33 (fun H locs hW hS => ?_)
    refine lv_if_eq (tgt := 120) hx hb dX4_styleStatement_36 (by decide) (fun cc => ?_) (fun cc => ?_)
    · replace h := (if_pos cc).symm.trans h
      refine lv_iconst (v := (0 : Int32)) hx hb dX4_styleStatement_120 (by decide) ?_
      cases h
      exact r_bool F hr (Or.inl rfl) hW hS dX4_styleStatement_121
    · replace h := (if_neg cc).symm.trans h
      refine lv_aload_n hx hb dX4_styleStatement_39 rfl (lv_at hl 0 rfl) ?_
      refine fl_ldcS (index := 162) (tx := "hang") (t := 6) (by decide +kernel) F dX4_styleStatement_40 ?_
      refine lv_iconst (v := (0 : Int32)) hx hb dX4_styleStatement_42 (by decide) ?_
      refine lv_bipush (v := (9 : Int32)) hx hb dX4_styleStatement_43 (by decide) ?_
      refine lv_aload_n hx hb dX4_styleStatement_45 rfl (lv_at hl 1 rfl) ?_
      refine fl_get0 (v := .ref (b + (a1 + 1))) (ha1).1 F hW 0 (by decide) q_153 rfl rfl dX4_styleStatement_46 ?_
      refine lv_iconst (v := (4 : Int32)) hx hb dX4_styleStatement_49 (by decide) ?_
      obtain ⟨r4, qr4, h⟩ := ob h
      refine k_X4_number F (by decide) (ha1).2.1 qr4 q_670 ⟨Nat.le_of_ble_eq_true rfl, Nat.le_of_ble_eq_true rfl, Nat.le_of_ble_eq_true rfl, Nat.le_of_ble_eq_true rfl⟩ hW hS hl.1 (Nat.le_of_ble_eq_true rfl) dX4_styleStatement_50 (fun H locs hW hS => ?_)
      refine lv_if_eq (tgt := 120) hx hb dX4_styleStatement_53 (by decide) (fun cc => ?_) (fun cc => ?_)
      · replace h := (if_pos cc).symm.trans h
        refine lv_iconst (v := (0 : Int32)) hx hb dX4_styleStatement_120 (by decide) ?_
        cases h
        exact r_bool F hr (Or.inl rfl) hW hS dX4_styleStatement_121
      · replace h := (if_neg cc).symm.trans h
        refine lv_aload_n hx hb dX4_styleStatement_56 rfl (lv_at hl 0 rfl) ?_
        refine fl_ldcS (index := 164) (tx := "gap") (t := 7) (by decide +kernel) F dX4_styleStatement_57 ?_
        refine lv_iconst (v := (0 : Int32)) hx hb dX4_styleStatement_59 (by decide) ?_
        refine lv_bipush (v := (9 : Int32)) hx hb dX4_styleStatement_60 (by decide) ?_
        refine lv_aload_n hx hb dX4_styleStatement_62 rfl (lv_at hl 1 rfl) ?_
        refine fl_get0 (v := .ref (b + (a1 + 1))) (ha1).1 F hW 0 (by decide) q_153 rfl rfl dX4_styleStatement_63 ?_
        refine lv_iconst (v := (5 : Int32)) hx hb dX4_styleStatement_66 (by decide) ?_
        obtain ⟨r5, qr5, h⟩ := ob h
        refine k_X4_number F (by decide) (ha1).2.1 qr5 q_670 ⟨Nat.le_of_ble_eq_true rfl, Nat.le_of_ble_eq_true rfl, Nat.le_of_ble_eq_true rfl, Nat.le_of_ble_eq_true rfl⟩ hW hS hl.1 (Nat.le_of_ble_eq_true rfl) dX4_styleStatement_67 (fun H locs hW hS => ?_)
        refine lv_if_eq (tgt := 120) hx hb dX4_styleStatement_70 (by decide) (fun cc => ?_) (fun cc => ?_)
        · replace h := (if_pos cc).symm.trans h
          refine lv_iconst (v := (0 : Int32)) hx hb dX4_styleStatement_120 (by decide) ?_
          cases h
          exact r_bool F hr (Or.inl rfl) hW hS dX4_styleStatement_121
        · replace h := (if_neg cc).symm.trans h
          refine lv_aload_n hx hb dX4_styleStatement_73 rfl (lv_at hl 0 rfl) ?_
          refine fl_ldcS (index := 166) (tx := "dots") (t := 8) (by decide +kernel) F dX4_styleStatement_74 ?_
          refine lv_iconst (v := (0 : Int32)) hx hb dX4_styleStatement_76 (by decide) ?_
          refine lv_bipush (v := (9 : Int32)) hx hb dX4_styleStatement_77 (by decide) ?_
          refine lv_aload_n hx hb dX4_styleStatement_79 rfl (lv_at hl 1 rfl) ?_
          refine fl_get0 (v := .ref (b + (a1 + 1))) (ha1).1 F hW 0 (by decide) q_153 rfl rfl dX4_styleStatement_80 ?_
          refine lv_bipush (v := (6 : Int32)) hx hb dX4_styleStatement_83 (by decide) ?_
          obtain ⟨r6, qr6, h⟩ := ob h
          refine k_X4_number F (by decide) (ha1).2.1 qr6 q_670 ⟨Nat.le_of_ble_eq_true rfl, Nat.le_of_ble_eq_true rfl, Nat.le_of_ble_eq_true rfl, Nat.le_of_ble_eq_true rfl⟩ hW hS hl.1 (Nat.le_of_ble_eq_true rfl) dX4_styleStatement_85 (fun H locs hW hS => ?_)
          refine lv_if_eq (tgt := 120) hx hb dX4_styleStatement_88 (by decide) (fun cc => ?_) (fun cc => ?_)
          · replace h := (if_pos cc).symm.trans h
            refine lv_iconst (v := (0 : Int32)) hx hb dX4_styleStatement_120 (by decide) ?_
            cases h
            exact r_bool F hr (Or.inl rfl) hW hS dX4_styleStatement_121
          · replace h := (if_neg cc).symm.trans h
            refine lv_aload_n hx hb dX4_styleStatement_91 rfl (lv_at hl 0 rfl) ?_
            refine fl_ldcS (index := 168) (tx := "grid") (t := 9) (by decide +kernel) F dX4_styleStatement_92 ?_
            refine lv_iconst (v := (1 : Int32)) hx hb dX4_styleStatement_94 (by decide) ?_
            refine lv_bipush (v := (9 : Int32)) hx hb dX4_styleStatement_95 (by decide) ?_
            refine lv_aload_n hx hb dX4_styleStatement_97 rfl (lv_at hl 1 rfl) ?_
            refine fl_get0 (v := .ref (b + (a1 + 1))) (ha1).1 F hW 0 (by decide) q_153 rfl rfl dX4_styleStatement_98 ?_
            refine lv_bipush (v := (7 : Int32)) hx hb dX4_styleStatement_101 (by decide) ?_
            obtain ⟨r7, qr7, h⟩ := ob h
            refine k_X4_number F (by decide) (ha1).2.1 qr7 q_670 ⟨Nat.le_of_ble_eq_true rfl, Nat.le_of_ble_eq_true rfl, Nat.le_of_ble_eq_true rfl, Nat.le_of_ble_eq_true rfl⟩ hW hS hl.1 (Nat.le_of_ble_eq_true rfl) dX4_styleStatement_103 (fun H locs hW hS => ?_)
            refine lv_if_eq (tgt := 120) hx hb dX4_styleStatement_106 (by decide) (fun cc => ?_) (fun cc => ?_)
            · replace h := (if_pos cc).symm.trans h
              refine lv_iconst (v := (0 : Int32)) hx hb dX4_styleStatement_120 (by decide) ?_
              cases h
              exact r_bool F hr (Or.inl rfl) hW hS dX4_styleStatement_121
            · replace h := (if_neg cc).symm.trans h
              refine lv_aload_n hx hb dX4_styleStatement_109 rfl (lv_at hl 0 rfl) ?_
              obtain ⟨r8, qr8, h⟩ := ob h
              refine k_X4_semicolon F qr8 q_677 ⟨Nat.le_of_ble_eq_true rfl, Nat.le_of_ble_eq_true rfl, Nat.le_of_ble_eq_true rfl, Nat.le_of_ble_eq_true rfl⟩ hW hS hl.1 (Nat.le_of_ble_eq_true rfl) dX4_styleStatement_110 (fun H locs hW hS => ?_)
              refine lv_if_eq (tgt := 120) hx hb dX4_styleStatement_113 (by decide) (fun cc => ?_) (fun cc => ?_)
              · replace h := (if_pos cc).symm.trans h
                refine lv_iconst (v := (0 : Int32)) hx hb dX4_styleStatement_120 (by decide) ?_
                cases h
                exact r_bool F hr (Or.inl rfl) hW hS dX4_styleStatement_121
              · replace h := (if_neg cc).symm.trans h
                refine lv_iconst (v := (1 : Int32)) hx hb dX4_styleStatement_116 (by decide) ?_
                refine lv_goto (tgt := 121) hx hb dX4_styleStatement_117 (by decide) ?_
                cases h
                exact r_bool F hr (Or.inr rfl) hW hS dX4_styleStatement_121
  · replace h := (if_neg cc).symm.trans h
    refine lv_aload_n hx hb dX4_styleStatement_7 rfl (lv_at hl 0 rfl) ?_
    refine lv_iconst (v := (3 : Int32)) hx hb dX4_styleStatement_8 (by decide) ?_
    obtain ⟨r9, qr9, h⟩ := ob h
    refine k_X4_fail F qr9 q_665 ⟨Nat.le_of_ble_eq_true rfl, Nat.le_of_ble_eq_true rfl, Nat.le_of_ble_eq_true rfl, Nat.le_of_ble_eq_true rfl⟩ hW hS hl.1 (Nat.le_of_ble_eq_true rfl) dX4_styleStatement_9 (fun H locs hW hS => ?_)
    obtain ⟨v10, qv10, h⟩ := ob h
    obtain ⟨zv10, qv10⟩ := isB_some qv10
    rw [qv10] at zv10
    rw [qv10]
    cases h
    exact r_bool F hr zv10 hW hS dX4_styleStatement_12
set_option maxHeartbeats 4000000 in
set_option maxRecDepth 100000 in
theorem c_X4_styleStatement {l : Launch} {G : Gt} {b : Nat} {n : Nat} {a1 : Nat} {μ : Mm} {out : (Int32 × Mm)} (ha1 : okBk a1) (h : sh_X4_styleStatement n a1 μ = some out) : Met l yX4_styleStatement (wU (Cond.code yX4_styleStatement cX4_styleStatement 2 (some .boolean))) ({ frames := 6, cells := 0, slots := 0, locals := 133 } : Room) (PcW G b μ [.ref (b + 5), .ref (b + a1)]) (QW G b out.2 (some (.int out.1))) 0 0 (fb b) :=
  met_of [.ref (b + 5), .ref (b + a1)] (by decide) (Nat.le_of_ble_eq_true rfl) (fun F hr hW hl => wk_X4_styleStatement F hr ha1 h hW va_S.rf hl)
set_option maxHeartbeats 4000000 in
set_option maxRecDepth 100000 in
theorem k_X4_styleStatement {own : String} {nL : Nat} (F : FX G b own cc nL p s m args meth c) {n : Nat} {a1 : Nat} {μ : Mm} {out : (Int32 × Mm)} (ha1 : okBk a1) (h : sh_X4_styleStatement n a1 μ = some out) {index : Nat} (hl : Cond.methodLink own index yX4_styleStatement ∈ TBG) (hR : 6 + 1 ≤ R.frames ∧ 8 + (2 + 11) + 133 ≤ R.locals ∧ cells ≤ R.cells ∧ slots ≤ R.slots) (hW : WH G b μ H) (hS : va_S (fb b) s.heap H locs) (hsz : ls.size = nL) (hrest : (rest.map fun v => v.category).sum ≤ 8) (hdg : decode cc pc = .ok (.invokevirtual index, 3))
    (kk : ∀ (H1 : Heap) (locs1 : List Loc), WH G b out.2 H1 → va_S (fb b) s.heap H1 locs1 → W p l e R s m args below meth c H1 locs1 cells slots Q (F0 m (pc + 3) ls (.int out.1 :: rest))) : W p l e R s m args below meth c H locs cells slots Q (F0 m pc ls (.ref (b + a1) :: .ref (b + 5) :: rest)) :=
  f_callV (As := [.ref (b + a1)]) (ci := 4) (c_X4_styleStatement ha1 h) ⟨rfl, rfl⟩ rfl (ky_lt kyf_5 (by decide)) (wF_4 kyf_5) q_688 qp_16 q_4 q_689 rfl ⟨by decide +kernel, by decide +kernel, (show (parseMethodDescriptor yX4_styleStatement.desc).map (fun d => d.parameters.length) = some 1 by decide +kernel)⟩ F hl hR hW hS hsz hrest rfl hdg kk
set_option maxHeartbeats 4000000 in
set_option maxRecDepth 100000 in
theorem wk_X4_rightStatement {n : Nat} {a1 : Nat} {μ : Mm} {out : (Int32 × Mm)} (F : FX G b RX4 cX4_rightStatement 2 p s m args meth c) (hr : meth.sig.returnType = some .boolean) (ha1 : okBk a1) (h : sh_X4_rightStatement n a1 μ = some out) (hW : WH G b μ H) (hS : va_S (fb b) s.heap H locs) (hl : lv_has ls 2 [(0, .ref (b + 5)), (1, .ref (b + a1))]) : W p l e ({ frames := 3, cells := 0, slots := 0, locals := 62 } : Room) s m args below meth c H locs 0 0 (MQ below (QW G b out.2 (some (.int out.1))) args s 0 0 (fb b)) (F0 m 0 ls []) := by
  have hx := F.1
  have hb := F.2.1
  unfold sh_X4_rightStatement at h
  refine lv_aload_n hx hb dX4_rightStatement_0 rfl (lv_at hl 0 rfl) ?_
  refine fl_get4 (v := .int (μ.1 5 10)) kyf_5 F hW 10 (by decide) q_87 rfl rfl dX4_rightStatement_1 ?_
  refine lv_if_eq (tgt := 13) hx hb dX4_rightStatement_4 (by decide) (fun cc => ?_) (fun cc => ?_)
  · replace h := (if_pos cc).symm.trans h
    refine lv_aload_n hx hb dX4_rightStatement_13 rfl (lv_at hl 0 rfl) ?_
    refine lv_iconst (v := (1 : Int32)) hx hb dX4_rightStatement_14 (by decide) ?_
    obtain ⟨μ1, hmμ1, h⟩ := ob h
    refine fl_put4_10 kyf_5 F hW hS q_87 hmμ1 dX4_rightStatement_15 (fun H locs hW hS => ?_)
    refine lv_aload_n hx hb dX4_rightStatement_18 rfl (lv_at hl 1 rfl) ?_
    refine lv_iconst (v := (1 : Int32)) hx hb dX4_rightStatement_19 (by decide) ?_
    obtain ⟨μ2, hmμ2, h⟩ := ob h
    refine fl_put0_1 (ha1).1 F hW hS q_157 hmμ2 dX4_rightStatement_20 (fun H locs hW hS => ?_)
    refine lv_aload_n hx hb dX4_rightStatement_23 rfl (lv_at hl 0 rfl) ?_
    obtain ⟨r3, qr3, h⟩ := ob h
    refine k_X4_advance F qr3 q_591 ⟨Nat.le_of_ble_eq_true rfl, Nat.le_of_ble_eq_true rfl, Nat.le_of_ble_eq_true rfl, Nat.le_of_ble_eq_true rfl⟩ hW hS hl.1 (Nat.le_of_ble_eq_true rfl) dX4_rightStatement_24 (fun H locs hW hS => ?_)
    refine lv_aload_n hx hb dX4_rightStatement_27 rfl (lv_at hl 0 rfl) ?_
    obtain ⟨r4, qr4, h⟩ := ob h
    refine k_X4_semicolon F qr4 q_677 ⟨Nat.le_of_ble_eq_true rfl, Nat.le_of_ble_eq_true rfl, Nat.le_of_ble_eq_true rfl, Nat.le_of_ble_eq_true rfl⟩ hW hS hl.1 (Nat.le_of_ble_eq_true rfl) dX4_rightStatement_28 (fun H locs hW hS => ?_)
    obtain ⟨v5, qv5, h⟩ := ob h
    obtain ⟨zv5, qv5⟩ := isB_some qv5
    rw [qv5] at zv5
    rw [qv5]
    cases h
    exact r_bool F hr zv5 hW hS dX4_rightStatement_31
  · replace h := (if_neg cc).symm.trans h
    refine lv_aload_n hx hb dX4_rightStatement_7 rfl (lv_at hl 0 rfl) ?_
    refine lv_iconst (v := (3 : Int32)) hx hb dX4_rightStatement_8 (by decide) ?_
    obtain ⟨r6, qr6, h⟩ := ob h
    refine k_X4_fail F qr6 q_665 ⟨Nat.le_of_ble_eq_true rfl, Nat.le_of_ble_eq_true rfl, Nat.le_of_ble_eq_true rfl, Nat.le_of_ble_eq_true rfl⟩ hW hS hl.1 (Nat.le_of_ble_eq_true rfl) dX4_rightStatement_9 (fun H locs hW hS => ?_)
    obtain ⟨v7, qv7, h⟩ := ob h
    obtain ⟨zv7, qv7⟩ := isB_some qv7
    rw [qv7] at zv7
    rw [qv7]
    cases h
    exact r_bool F hr zv7 hW hS dX4_rightStatement_12
set_option maxHeartbeats 4000000 in
set_option maxRecDepth 100000 in
theorem c_X4_rightStatement {l : Launch} {G : Gt} {b : Nat} {n : Nat} {a1 : Nat} {μ : Mm} {out : (Int32 × Mm)} (ha1 : okBk a1) (h : sh_X4_rightStatement n a1 μ = some out) : Met l yX4_rightStatement (wU (Cond.code yX4_rightStatement cX4_rightStatement 2 (some .boolean))) ({ frames := 3, cells := 0, slots := 0, locals := 62 } : Room) (PcW G b μ [.ref (b + 5), .ref (b + a1)]) (QW G b out.2 (some (.int out.1))) 0 0 (fb b) :=
  met_of [.ref (b + 5), .ref (b + a1)] (by decide) (Nat.le_of_ble_eq_true rfl) (fun F hr hW hl => wk_X4_rightStatement F hr ha1 h hW va_S.rf hl)
set_option maxHeartbeats 4000000 in
set_option maxRecDepth 100000 in
theorem k_X4_rightStatement {own : String} {nL : Nat} (F : FX G b own cc nL p s m args meth c) {n : Nat} {a1 : Nat} {μ : Mm} {out : (Int32 × Mm)} (ha1 : okBk a1) (h : sh_X4_rightStatement n a1 μ = some out) {index : Nat} (hl : Cond.methodLink own index yX4_rightStatement ∈ TBG) (hR : 3 + 1 ≤ R.frames ∧ 8 + (2 + 11) + 62 ≤ R.locals ∧ cells ≤ R.cells ∧ slots ≤ R.slots) (hW : WH G b μ H) (hS : va_S (fb b) s.heap H locs) (hsz : ls.size = nL) (hrest : (rest.map fun v => v.category).sum ≤ 8) (hdg : decode cc pc = .ok (.invokevirtual index, 3))
    (kk : ∀ (H1 : Heap) (locs1 : List Loc), WH G b out.2 H1 → va_S (fb b) s.heap H1 locs1 → W p l e R s m args below meth c H1 locs1 cells slots Q (F0 m (pc + 3) ls (.int out.1 :: rest))) : W p l e R s m args below meth c H locs cells slots Q (F0 m pc ls (.ref (b + a1) :: .ref (b + 5) :: rest)) :=
  f_callV (As := [.ref (b + a1)]) (ci := 4) (c_X4_rightStatement ha1 h) ⟨rfl, rfl⟩ rfl (ky_lt kyf_5 (by decide)) (wF_4 kyf_5) q_698 qp_17 q_4 q_699 rfl ⟨by decide +kernel, by decide +kernel, (show (parseMethodDescriptor yX4_rightStatement.desc).map (fun d => d.parameters.length) = some 1 by decide +kernel)⟩ F hl hR hW hS hsz hrest rfl hdg kk
set_option maxHeartbeats 4000000 in
set_option maxRecDepth 100000 in
theorem wk_X4_mainStatement {n : Nat} {μ : Mm} {out : (Int32 × Mm)} (F : FX G b RX4 cX4_mainStatement 1 p s m args meth c) (hr : meth.sig.returnType = some .boolean) (h : sh_X4_mainStatement n  μ = some out) (hW : WH G b μ H) (hS : va_S (fb b) s.heap H locs) (hl : lv_has ls 1 [(0, .ref (b + 5))]) : W p l e ({ frames := 3, cells := 0, slots := 0, locals := 62 } : Room) s m args below meth c H locs 0 0 (MQ below (QW G b out.2 (some (.int out.1))) args s 0 0 (fb b)) (F0 m 0 ls []) := by
  have hx := F.1
  have hb := F.2.1
  unfold sh_X4_mainStatement at h
  refine lv_aload_n hx hb dX4_mainStatement_0 rfl (lv_at hl 0 rfl) ?_
  refine fl_get4 (v := .int (μ.1 5 11)) kyf_5 F hW 11 (by decide) q_88 rfl rfl dX4_mainStatement_1 ?_
  refine lv_if_eq (tgt := 13) hx hb dX4_mainStatement_4 (by decide) (fun cc => ?_) (fun cc => ?_)
  · replace h := (if_pos cc).symm.trans h
    refine lv_aload_n hx hb dX4_mainStatement_13 rfl (lv_at hl 0 rfl) ?_
    refine lv_iconst (v := (1 : Int32)) hx hb dX4_mainStatement_14 (by decide) ?_
    obtain ⟨μ1, hmμ1, h⟩ := ob h
    refine fl_put4_11 kyf_5 F hW hS q_88 hmμ1 dX4_mainStatement_15 (fun H locs hW hS => ?_)
    refine lv_aload_n hx hb dX4_mainStatement_18 rfl (lv_at hl 0 rfl) ?_
    obtain ⟨r2, qr2, h⟩ := ob h
    refine k_X4_advance F qr2 q_591 ⟨Nat.le_of_ble_eq_true rfl, Nat.le_of_ble_eq_true rfl, Nat.le_of_ble_eq_true rfl, Nat.le_of_ble_eq_true rfl⟩ hW hS hl.1 (Nat.le_of_ble_eq_true rfl) dX4_mainStatement_19 (fun H locs hW hS => ?_)
    refine lv_aload_n hx hb dX4_mainStatement_22 rfl (lv_at hl 0 rfl) ?_
    obtain ⟨r3, qr3, h⟩ := ob h
    refine k_X4_semicolon F qr3 q_677 ⟨Nat.le_of_ble_eq_true rfl, Nat.le_of_ble_eq_true rfl, Nat.le_of_ble_eq_true rfl, Nat.le_of_ble_eq_true rfl⟩ hW hS hl.1 (Nat.le_of_ble_eq_true rfl) dX4_mainStatement_23 (fun H locs hW hS => ?_)
    obtain ⟨v4, qv4, h⟩ := ob h
    obtain ⟨zv4, qv4⟩ := isB_some qv4
    rw [qv4] at zv4
    rw [qv4]
    cases h
    exact r_bool F hr zv4 hW hS dX4_mainStatement_26
  · replace h := (if_neg cc).symm.trans h
    refine lv_aload_n hx hb dX4_mainStatement_7 rfl (lv_at hl 0 rfl) ?_
    refine lv_iconst (v := (3 : Int32)) hx hb dX4_mainStatement_8 (by decide) ?_
    obtain ⟨r5, qr5, h⟩ := ob h
    refine k_X4_fail F qr5 q_665 ⟨Nat.le_of_ble_eq_true rfl, Nat.le_of_ble_eq_true rfl, Nat.le_of_ble_eq_true rfl, Nat.le_of_ble_eq_true rfl⟩ hW hS hl.1 (Nat.le_of_ble_eq_true rfl) dX4_mainStatement_9 (fun H locs hW hS => ?_)
    obtain ⟨v6, qv6, h⟩ := ob h
    obtain ⟨zv6, qv6⟩ := isB_some qv6
    rw [qv6] at zv6
    rw [qv6]
    cases h
    exact r_bool F hr zv6 hW hS dX4_mainStatement_12
set_option maxHeartbeats 4000000 in
set_option maxRecDepth 100000 in
theorem c_X4_mainStatement {l : Launch} {G : Gt} {b : Nat} {n : Nat} {μ : Mm} {out : (Int32 × Mm)} (h : sh_X4_mainStatement n  μ = some out) : Met l yX4_mainStatement (wU (Cond.code yX4_mainStatement cX4_mainStatement 1 (some .boolean))) ({ frames := 3, cells := 0, slots := 0, locals := 62 } : Room) (PcW G b μ [.ref (b + 5)]) (QW G b out.2 (some (.int out.1))) 0 0 (fb b) :=
  met_of [.ref (b + 5)] (by decide) (Nat.le_of_ble_eq_true rfl) (fun F hr hW hl => wk_X4_mainStatement F hr h hW va_S.rf hl)
set_option maxHeartbeats 4000000 in
set_option maxRecDepth 100000 in
theorem k_X4_mainStatement {own : String} {nL : Nat} (F : FX G b own cc nL p s m args meth c) {n : Nat} {μ : Mm} {out : (Int32 × Mm)} (h : sh_X4_mainStatement n  μ = some out) {index : Nat} (hl : Cond.methodLink own index yX4_mainStatement ∈ TBG) (hR : 3 + 1 ≤ R.frames ∧ 8 + (1 + 11) + 62 ≤ R.locals ∧ cells ≤ R.cells ∧ slots ≤ R.slots) (hW : WH G b μ H) (hS : va_S (fb b) s.heap H locs) (hsz : ls.size = nL) (hrest : (rest.map fun v => v.category).sum ≤ 8) (hdg : decode cc pc = .ok (.invokevirtual index, 3))
    (kk : ∀ (H1 : Heap) (locs1 : List Loc), WH G b out.2 H1 → va_S (fb b) s.heap H1 locs1 → W p l e R s m args below meth c H1 locs1 cells slots Q (F0 m (pc + 3) ls (.int out.1 :: rest))) : W p l e R s m args below meth c H locs cells slots Q (F0 m pc ls (.ref (b + 5) :: rest)) :=
  f_callV (As := []) (ci := 4) (c_X4_mainStatement h) ⟨rfl, rfl⟩ rfl (ky_lt kyf_5 (by decide)) (wF_4 kyf_5) q_703 qp_18 q_4 q_704 rfl ⟨by decide +kernel, by decide +kernel, (show (parseMethodDescriptor yX4_mainStatement.desc).map (fun d => d.parameters.length) = some 0 by decide +kernel)⟩ F hl hR hW hS hsz hrest rfl hdg kk
set_option maxHeartbeats 4000000 in
set_option maxRecDepth 100000 in
theorem wk_X4_titleOf_102 {n : Nat} {μ : Mm} {out : (Int32 × Mm)} (F : FX G b RX4 cX4_titleOf 2 p s m args meth c) (hr : meth.sig.returnType = some .boolean) (h : sh_X4_titleOf_102 n μ = some out) (hW : WH G b μ H) (hS : va_S (fb b) s.heap H locs) (hl : lv_has ls 2 [(0, .ref (b + 5))]) : W p l e ({ frames := 2, cells := 0, slots := 0, locals := 48 } : Room) s m args below meth c H locs 0 0 (MQ below (QW G b out.2 (some (.int out.1))) args s 0 0 (fb b)) (F0 m 102 ls []) := by
  have hx := F.1
  have hb := F.2.1
  unfold sh_X4_titleOf_102 at h
  refine lv_aload_n hx hb dX4_titleOf_102 rfl (lv_at hl 0 rfl) ?_
  refine fl_get4 (v := .int (μ.1 5 3)) kyf_5 F hW 3 (by decide) q_79 rfl rfl dX4_titleOf_103 ?_
  refine lv_if_gt (tgt := 117) hx hb dX4_titleOf_106 (by decide) (fun cc => ?_) (fun cc => ?_)
  · replace h := (if_pos cc).symm.trans h
    refine lv_iconst (v := (1 : Int32)) hx hb dX4_titleOf_117 (by decide) ?_
    refine lv_goto (tgt := 122) hx hb dX4_titleOf_118 (by decide) ?_
    cases h
    exact r_bool F hr (Or.inr rfl) hW hS dX4_titleOf_122
  · replace h := (if_neg cc).symm.trans h
    refine lv_aload_n hx hb dX4_titleOf_109 rfl (lv_at hl 0 rfl) ?_
    refine lv_iconst (v := (1 : Int32)) hx hb dX4_titleOf_110 (by decide) ?_
    obtain ⟨r2, qr2, h⟩ := ob h
    refine k_X4_fail F qr2 q_665 ⟨Nat.le_of_ble_eq_true rfl, Nat.le_of_ble_eq_true rfl, Nat.le_of_ble_eq_true rfl, Nat.le_of_ble_eq_true rfl⟩ hW hS hl.1 (Nat.le_of_ble_eq_true rfl) dX4_titleOf_111 (fun H locs hW hS => ?_)
    refine lv_if_eq (tgt := 121) hx hb dX4_titleOf_114 (by decide) (fun cc => ?_) (fun cc => ?_)
    · replace h := (if_pos cc).symm.trans h
      refine lv_iconst (v := (0 : Int32)) hx hb dX4_titleOf_121 (by decide) ?_
      cases h
      exact r_bool F hr (Or.inl rfl) hW hS dX4_titleOf_122
    · replace h := (if_neg cc).symm.trans h
      refine lv_iconst (v := (1 : Int32)) hx hb dX4_titleOf_117 (by decide) ?_
      refine lv_goto (tgt := 122) hx hb dX4_titleOf_118 (by decide) ?_
      cases h
      exact r_bool F hr (Or.inr rfl) hW hS dX4_titleOf_122
set_option maxHeartbeats 4000000 in
set_option maxRecDepth 100000 in
theorem wk_X4_titleOf_7 {n : Nat} {out : (Int32 × Mm)} (F : FX G b RX4 cX4_titleOf 2 p s m args meth c) (hr : meth.sig.returnType = some .boolean) : ∀ (f : Nat) (x1 : Int32) (μ : Mm) (H : Heap) (locs : List Loc) (ls : Array Slot), sh_X4_titleOf_7 n f x1 μ = some out → WH G b μ H → va_S (fb b) s.heap H locs → lv_has ls 2 [(0, .ref (b + 5)), (1, .int x1)] → W p l e ({ frames := 2, cells := 0, slots := 0, locals := 48 } : Room) s m args below meth c H locs 0 0 (MQ below (QW G b out.2 (some (.int out.1))) args s 0 0 (fb b)) (F0 m 7 ls []) := by
  have hx := F.1
  have hb := F.2.1
  intro f
  induction f with
  | zero =>
    intro _ _ _ _ _ h
    rw [sh_X4_titleOf_7] at h
    cases h
  | succ f ih =>
    intro x1 μ H locs ls h hW hS hl
    rw [sh_X4_titleOf_7] at h
    have hk7 := ih
    refine lv_iload_n hx hb dX4_titleOf_7 rfl (lv_at hl 1 rfl) ?_
    refine lv_bipush (v := (8 : Int32)) hx hb dX4_titleOf_8 (by decide) ?_
    refine lv_icmp_gt (tgt := 102) hx hb dX4_titleOf_10 (by decide) (fun cc => ?_) (fun cc => ?_)
    · replace h := (if_pos cc).symm.trans h
      exact wk_X4_titleOf_102 F hr h hW hS (lv_sub hl [0] rfl)
    · replace h := (if_neg cc).symm.trans h
      refine lv_aload_n hx hb dX4_titleOf_13 rfl (lv_at hl 0 rfl) ?_
      refine fl_get4 (v := .int (μ.1 5 5)) kyf_5 F hW 5 (by decide) q_82 rfl rfl dX4_titleOf_14 ?_
      refine lv_iconst (v := (1 : Int32)) hx hb dX4_titleOf_17 (by decide) ?_
      refine lv_icmp_ne (tgt := 102) hx hb dX4_titleOf_18 (by decide) (fun cc => ?_) (fun cc => ?_)
      · replace h := (if_neg cc).symm.trans h
        exact wk_X4_titleOf_102 F hr h hW hS (lv_sub hl [0] rfl)
      · replace h := (if_pos cc).symm.trans h
        refine lv_aload_n hx hb dX4_titleOf_21 rfl (lv_at hl 0 rfl) ?_
        refine fl_get4 (v := .int (μ.1 5 7)) kyf_5 F hW 7 (by decide) q_84 rfl rfl dX4_titleOf_22 ?_
        refine lv_aload_n hx hb dX4_titleOf_25 rfl (lv_at hl 0 rfl) ?_
        refine fl_get4 (v := .int (μ.1 5 6)) kyf_5 F hW 6 (by decide) q_83 rfl rfl dX4_titleOf_26 ?_
        refine lv_isub hx hb dX4_titleOf_29 ?_
        refine lv_bipush (v := (12 : Int32)) hx hb dX4_titleOf_30 (by decide) ?_
        refine lv_icmp_le (tgt := 41) hx hb dX4_titleOf_32 (by decide) (fun cc => ?_) (fun cc => ?_)
        · replace h := (if_pos cc).symm.trans h
          refine lv_aload_n hx hb dX4_titleOf_41 rfl (lv_at hl 0 rfl) ?_
          refine fl_get4 (v := .int (μ.1 5 3)) kyf_5 F hW 3 (by decide) q_79 rfl rfl dX4_titleOf_42 ?_
          refine lv_bipush (v := (8 : Int32)) hx hb dX4_titleOf_45 (by decide) ?_
          refine lv_icmp_lt (tgt := 56) hx hb dX4_titleOf_47 (by decide) (fun cc => ?_) (fun cc => ?_)
          · replace h := (if_pos cc).symm.trans h
            refine lv_aload_n hx hb dX4_titleOf_56 rfl (lv_at hl 0 rfl) ?_
            refine fl_get4 (v := .ref (b + 6)) kyf_5 F hW 2 (by decide) q_77 rfl rfl dX4_titleOf_57 ?_
            refine lv_aload_n hx hb dX4_titleOf_60 rfl (lv_at hl 0 rfl) ?_
            refine fl_get4 (v := .int (μ.1 5 3)) kyf_5 F hW 3 (by decide) q_79 rfl rfl dX4_titleOf_61 ?_
            refine lv_aload_n hx hb dX4_titleOf_64 rfl (lv_at hl 0 rfl) ?_
            have pf3 := hW.2.2
            refine fl_get4 (v := .ref (b + (μ.2.2 1))) kyf_5 F hW 4 (by decide) q_81 rfl rfl dX4_titleOf_65 ?_
            refine lv_aload_n hx hb dX4_titleOf_68 rfl (lv_at hl 0 rfl) ?_
            refine fl_get4 (v := .int (μ.1 5 6)) kyf_5 F hW 6 (by decide) q_83 rfl rfl dX4_titleOf_69 ?_
            refine lv_aload_n hx hb dX4_titleOf_72 rfl (lv_at hl 0 rfl) ?_
            refine fl_get4 (v := .int (μ.1 5 7)) kyf_5 F hW 7 (by decide) q_84 rfl rfl dX4_titleOf_73 ?_
            obtain ⟨r4, qr4, h⟩ := ob h
            refine k_X8_wordBetween F pf3 qr4 q_721 ⟨Nat.le_of_ble_eq_true rfl, Nat.le_of_ble_eq_true rfl, Nat.le_of_ble_eq_true rfl, Nat.le_of_ble_eq_true rfl⟩ hW hS hl.1 (Nat.le_of_ble_eq_true rfl) dX4_titleOf_76 (fun H locs hW hS => ?_)
            obtain ⟨r5, qr5, h⟩ := ob h
            refine k_X9_put F ok_6 qr5 q_727 ⟨Nat.le_of_ble_eq_true rfl, Nat.le_of_ble_eq_true rfl, Nat.le_of_ble_eq_true rfl, Nat.le_of_ble_eq_true rfl⟩ hW hS hl.1 (Nat.le_of_ble_eq_true rfl) dX4_titleOf_79 (fun H locs hW hS => ?_)
            refine lv_aload_n hx hb dX4_titleOf_82 rfl (lv_at hl 0 rfl) ?_
            refine lv_dup hx hb dX4_titleOf_83 rfl ?_
            refine fl_get4 (v := .int (r5.1 5 3)) kyf_5 F hW 3 (by decide) q_79 rfl rfl dX4_titleOf_84 ?_
            refine lv_iconst (v := (1 : Int32)) hx hb dX4_titleOf_87 (by decide) ?_
            refine lv_iadd hx hb dX4_titleOf_88 ?_
            obtain ⟨μ6, hmμ6, h⟩ := ob h
            refine fl_put4_3 kyf_5 F hW hS q_79 hmμ6 dX4_titleOf_89 (fun H locs hW hS => ?_)
            refine lv_aload_n hx hb dX4_titleOf_92 rfl (lv_at hl 0 rfl) ?_
            obtain ⟨r7, qr7, h⟩ := ob h
            refine k_X4_advance F qr7 q_591 ⟨Nat.le_of_ble_eq_true rfl, Nat.le_of_ble_eq_true rfl, Nat.le_of_ble_eq_true rfl, Nat.le_of_ble_eq_true rfl⟩ hW hS hl.1 (Nat.le_of_ble_eq_true rfl) dX4_titleOf_93 (fun H locs hW hS => ?_)
            refine lv_iinc (v := (x1 + (1 : Int32))) (lv' := [(1, .int (x1 + (1 : Int32))), (0, .ref (b + 5))]) hx hb dX4_titleOf_96 hl (k := 1) rfl rfl (by decide) rfl (fun ls hl => ?_)
            refine lv_goto (tgt := 7) hx hb dX4_titleOf_99 (by decide) ?_
            exact hk7 _ _ _ _ _ h hW hS (lv_sub hl [1, 0] rfl)
          · replace h := (if_neg cc).symm.trans h
            refine lv_aload_n hx hb dX4_titleOf_50 rfl (lv_at hl 0 rfl) ?_
            refine lv_iconst (v := (4 : Int32)) hx hb dX4_titleOf_51 (by decide) ?_
            obtain ⟨r8, qr8, h⟩ := ob h
            refine k_X4_fail F qr8 q_665 ⟨Nat.le_of_ble_eq_true rfl, Nat.le_of_ble_eq_true rfl, Nat.le_of_ble_eq_true rfl, Nat.le_of_ble_eq_true rfl⟩ hW hS hl.1 (Nat.le_of_ble_eq_true rfl) dX4_titleOf_52 (fun H locs hW hS => ?_)
            obtain ⟨v9, qv9, h⟩ := ob h
            obtain ⟨zv9, qv9⟩ := isB_some qv9
            rw [qv9] at zv9
            rw [qv9]
            cases h
            exact r_bool F hr zv9 hW hS dX4_titleOf_55
        · replace h := (if_neg cc).symm.trans h
          refine lv_aload_n hx hb dX4_titleOf_35 rfl (lv_at hl 0 rfl) ?_
          refine lv_iconst (v := (1 : Int32)) hx hb dX4_titleOf_36 (by decide) ?_
          obtain ⟨r10, qr10, h⟩ := ob h
          refine k_X4_fail F qr10 q_665 ⟨Nat.le_of_ble_eq_true rfl, Nat.le_of_ble_eq_true rfl, Nat.le_of_ble_eq_true rfl, Nat.le_of_ble_eq_true rfl⟩ hW hS hl.1 (Nat.le_of_ble_eq_true rfl) dX4_titleOf_37 (fun H locs hW hS => ?_)
          obtain ⟨v11, qv11, h⟩ := ob h
          obtain ⟨zv11, qv11⟩ := isB_some qv11
          rw [qv11] at zv11
          rw [qv11]
          cases h
          exact r_bool F hr zv11 hW hS dX4_titleOf_40
set_option maxHeartbeats 4000000 in
set_option maxRecDepth 100000 in
theorem wk_X4_titleOf {n : Nat} {μ : Mm} {out : (Int32 × Mm)} (F : FX G b RX4 cX4_titleOf 2 p s m args meth c) (hr : meth.sig.returnType = some .boolean) (h : sh_X4_titleOf n  μ = some out) (hW : WH G b μ H) (hS : va_S (fb b) s.heap H locs) (hl : lv_has ls 2 [(0, .ref (b + 5))]) : W p l e ({ frames := 2, cells := 0, slots := 0, locals := 48 } : Room) s m args below meth c H locs 0 0 (MQ below (QW G b out.2 (some (.int out.1))) args s 0 0 (fb b)) (F0 m 0 ls []) := by
  have hx := F.1
  have hb := F.2.1
  unfold sh_X4_titleOf at h
  refine lv_aload_n hx hb dX4_titleOf_0 rfl (lv_at hl 0 rfl) ?_
  refine lv_iconst (v := (0 : Int32)) hx hb dX4_titleOf_1 (by decide) ?_
  obtain ⟨μ1, hmμ1, h⟩ := ob h
  refine fl_put4_3 kyf_5 F hW hS q_79 hmμ1 dX4_titleOf_2 (fun H locs hW hS => ?_)
  refine lv_iconst (v := (0 : Int32)) hx hb dX4_titleOf_5 (by decide) ?_
  refine lv_istore_n (lv' := [(1, .int (0 : Int32)), (0, .ref (b + 5))]) hx hb dX4_titleOf_6 rfl hl (by decide) rfl (fun ls hl => ?_)
  exact wk_X4_titleOf_7 F hr n _ _ _ _ _ h hW hS (lv_sub hl [1, 0] rfl)
set_option maxHeartbeats 4000000 in
set_option maxRecDepth 100000 in
theorem c_X4_titleOf {l : Launch} {G : Gt} {b : Nat} {n : Nat} {μ : Mm} {out : (Int32 × Mm)} (h : sh_X4_titleOf n  μ = some out) : Met l yX4_titleOf (wU (Cond.code yX4_titleOf cX4_titleOf 2 (some .boolean))) ({ frames := 2, cells := 0, slots := 0, locals := 48 } : Room) (PcW G b μ [.ref (b + 5)]) (QW G b out.2 (some (.int out.1))) 0 0 (fb b) :=
  met_of [.ref (b + 5)] (by decide) (Nat.le_of_ble_eq_true rfl) (fun F hr hW hl => wk_X4_titleOf F hr h hW va_S.rf hl)
set_option maxHeartbeats 4000000 in
set_option maxRecDepth 100000 in
theorem k_X4_titleOf {own : String} {nL : Nat} (F : FX G b own cc nL p s m args meth c) {n : Nat} {μ : Mm} {out : (Int32 × Mm)} (h : sh_X4_titleOf n  μ = some out) {index : Nat} (hl : Cond.methodLink own index yX4_titleOf ∈ TBG) (hR : 2 + 1 ≤ R.frames ∧ 8 + (2 + 11) + 48 ≤ R.locals ∧ cells ≤ R.cells ∧ slots ≤ R.slots) (hW : WH G b μ H) (hS : va_S (fb b) s.heap H locs) (hsz : ls.size = nL) (hrest : (rest.map fun v => v.category).sum ≤ 8) (hdg : decode cc pc = .ok (.invokevirtual index, 3))
    (kk : ∀ (H1 : Heap) (locs1 : List Loc), WH G b out.2 H1 → va_S (fb b) s.heap H1 locs1 → W p l e R s m args below meth c H1 locs1 cells slots Q (F0 m (pc + 3) ls (.int out.1 :: rest))) : W p l e R s m args below meth c H locs cells slots Q (F0 m pc ls (.ref (b + 5) :: rest)) :=
  f_callV (As := []) (ci := 4) (c_X4_titleOf h) ⟨rfl, rfl⟩ rfl (ky_lt kyf_5 (by decide)) (wF_4 kyf_5) q_719 qp_20 q_4 q_720 rfl ⟨by decide +kernel, by decide +kernel, (show (parseMethodDescriptor yX4_titleOf.desc).map (fun d => d.parameters.length) = some 0 by decide +kernel)⟩ F hl hR hW hS hsz hrest rfl hdg kk
set_option maxHeartbeats 4000000 in
set_option maxRecDepth 100000 in
theorem wk_X4_sectionStatement_84 {n : Nat} {a1 : Nat} {x2 : Int32} {x3 : Int32} {s0 : Int32} {μ : Mm} {out : (Int32 × Mm)} (F : FX G b RX4 cX4_sectionStatement 5 p s m args meth c) (hr : meth.sig.returnType = some .boolean) (ha1 : okBk a1) (h : sh_X4_sectionStatement_84 n a1 x2 x3 s0 μ = some out) (hW : WH G b μ H) (hS : va_S (fb b) s.heap H locs) (hl : lv_has ls 5 [(0, .ref (b + 5)), (1, .ref (b + a1)), (2, .int x2), (3, .int x3)]) : W p l e ({ frames := 6, cells := 0, slots := 0, locals := 133 } : Room) s m args below meth c H locs 0 0 (MQ below (QW G b out.2 (some (.int out.1))) args s 0 0 (fb b)) (F0 m 84 ls [.int s0]) := by
  have hx := F.1
  have hb := F.2.1
  unfold sh_X4_sectionStatement_84 at h
  refine lv_istore (lv' := [(4, .int s0), (0, .ref (b + 5)), (1, .ref (b + a1)), (2, .int x2), (3, .int x3)]) hx hb dX4_sectionStatement_84 hl (by decide) rfl (fun ls hl => ?_)
  refine lv_iload hx hb dX4_sectionStatement_86 (lv_at hl 0 rfl) ?_
  refine lv_if_ne (tgt := 93) hx hb dX4_sectionStatement_88 (by decide) (fun cc => ?_) (fun cc => ?_)
  · replace h := (if_neg cc).symm.trans h
    refine lv_aload_n hx hb dX4_sectionStatement_93 rfl (lv_at hl 2 rfl) ?_
    refine lv_iload_n hx hb dX4_sectionStatement_94 rfl (lv_at hl 3 rfl) ?_
    refine lv_iload_n hx hb dX4_sectionStatement_95 rfl (lv_at hl 4 rfl) ?_
    obtain ⟨r4, qr4, h⟩ := ob h
    refine k_X0_open F ha1 qr4 q_731 ⟨Nat.le_of_ble_eq_true rfl, Nat.le_of_ble_eq_true rfl, Nat.le_of_ble_eq_true rfl, Nat.le_of_ble_eq_true rfl⟩ hW hS hl.1 (Nat.le_of_ble_eq_true rfl) dX4_sectionStatement_96 (fun H locs hW hS => ?_)
    refine lv_aload_n hx hb dX4_sectionStatement_99 rfl (lv_at hl 2 rfl) ?_
    refine lv_iload_n hx hb dX4_sectionStatement_100 rfl (lv_at hl 3 rfl) ?_
    refine lv_aload_n hx hb dX4_sectionStatement_101 rfl (lv_at hl 1 rfl) ?_
    refine fl_get4 (v := .ref (b + 6)) kyf_5 F hW 2 (by decide) q_77 rfl rfl dX4_sectionStatement_102 ?_
    refine lv_aload_n hx hb dX4_sectionStatement_105 rfl (lv_at hl 1 rfl) ?_
    refine fl_get4 (v := .int (r4.1 5 3)) kyf_5 F hW 3 (by decide) q_79 rfl rfl dX4_sectionStatement_106 ?_
    obtain ⟨r5, qr5, h⟩ := ob h
    refine k_X0_entitle F ha1 ok_6 qr5 q_751 ⟨Nat.le_of_ble_eq_true rfl, Nat.le_of_ble_eq_true rfl, Nat.le_of_ble_eq_true rfl, Nat.le_of_ble_eq_true rfl⟩ hW hS hl.1 (Nat.le_of_ble_eq_true rfl) dX4_sectionStatement_109 (fun H locs hW hS => ?_)
    refine lv_aload_n hx hb dX4_sectionStatement_112 rfl (lv_at hl 1 rfl) ?_
    obtain ⟨r6, qr6, h⟩ := ob h
    refine k_X4_semicolon F qr6 q_677 ⟨Nat.le_of_ble_eq_true rfl, Nat.le_of_ble_eq_true rfl, Nat.le_of_ble_eq_true rfl, Nat.le_of_ble_eq_true rfl⟩ hW hS hl.1 (Nat.le_of_ble_eq_true rfl) dX4_sectionStatement_113 (fun H locs hW hS => ?_)
    obtain ⟨v7, qv7, h⟩ := ob h
    obtain ⟨zv7, qv7⟩ := isB_some qv7
    rw [qv7] at zv7
    rw [qv7]
    cases h
    exact r_bool F hr zv7 hW hS dX4_sectionStatement_116
  · replace h := (if_pos cc).symm.trans h
    refine lv_iconst (v := (0 : Int32)) hx hb dX4_sectionStatement_91 (by decide) ?_
    cases h
    exact r_bool F hr (Or.inl rfl) hW hS dX4_sectionStatement_92
set_option maxHeartbeats 4000000 in
set_option maxRecDepth 100000 in
theorem wk_X4_sectionStatement_83 {n : Nat} {a1 : Nat} {x2 : Int32} {x3 : Int32} {μ : Mm} {out : (Int32 × Mm)} (F : FX G b RX4 cX4_sectionStatement 5 p s m args meth c) (hr : meth.sig.returnType = some .boolean) (ha1 : okBk a1) (h : sh_X4_sectionStatement_83 n a1 x2 x3 μ = some out) (hW : WH G b μ H) (hS : va_S (fb b) s.heap H locs) (hl : lv_has ls 5 [(0, .ref (b + 5)), (1, .ref (b + a1)), (2, .int x2), (3, .int x3)]) : W p l e ({ frames := 6, cells := 0, slots := 0, locals := 133 } : Room) s m args below meth c H locs 0 0 (MQ below (QW G b out.2 (some (.int out.1))) args s 0 0 (fb b)) (F0 m 83 ls []) := by
  have hx := F.1
  have hb := F.2.1
  unfold sh_X4_sectionStatement_83 at h
  refine lv_iconst (v := (0 : Int32)) hx hb dX4_sectionStatement_83 (by decide) ?_
  exact wk_X4_sectionStatement_84 F hr ha1 h hW hS (lv_sub hl [0, 1, 2, 3] rfl)
set_option maxHeartbeats 4000000 in
set_option maxRecDepth 100000 in
theorem wk_X4_sectionStatement_32 {n : Nat} {a1 : Nat} {x2 : Int32} {s0 : Int32} {μ : Mm} {out : (Int32 × Mm)} (F : FX G b RX4 cX4_sectionStatement 5 p s m args meth c) (hr : meth.sig.returnType = some .boolean) (ha1 : okBk a1) (h : sh_X4_sectionStatement_32 n a1 x2 s0 μ = some out) (hW : WH G b μ H) (hS : va_S (fb b) s.heap H locs) (hl : lv_has ls 5 [(0, .ref (b + 5)), (1, .ref (b + a1)), (2, .int x2)]) : W p l e ({ frames := 6, cells := 0, slots := 0, locals := 133 } : Room) s m args below meth c H locs 0 0 (MQ below (QW G b out.2 (some (.int out.1))) args s 0 0 (fb b)) (F0 m 32 ls [.int s0]) := by
  have hx := F.1
  have hb := F.2.1
  unfold sh_X4_sectionStatement_32 at h
  refine lv_istore_n (lv' := [(3, .int s0), (0, .ref (b + 5)), (1, .ref (b + a1)), (2, .int x2)]) hx hb dX4_sectionStatement_32 rfl hl (by decide) rfl (fun ls hl => ?_)
  refine lv_aload_n hx hb dX4_sectionStatement_33 rfl (lv_at hl 1 rfl) ?_
  refine fl_ldcS (index := 155) (tx := "section") (t := 12) (by decide +kernel) F dX4_sectionStatement_34 ?_
  refine lv_iconst (v := (1 : Int32)) hx hb dX4_sectionStatement_36 (by decide) ?_
  refine lv_aload_n hx hb dX4_sectionStatement_37 rfl (lv_at hl 2 rfl) ?_
  refine lv_iload_n hx hb dX4_sectionStatement_38 rfl (lv_at hl 0 rfl) ?_
  refine lv_iload_n hx hb dX4_sectionStatement_39 rfl (lv_at hl 3 rfl) ?_
  obtain ⟨r2, qr2, h⟩ := ob h
  refine k_X0_greatestLevel F ha1 qr2 q_710 ⟨Nat.le_of_ble_eq_true rfl, Nat.le_of_ble_eq_true rfl, Nat.le_of_ble_eq_true rfl, Nat.le_of_ble_eq_true rfl⟩ hW hS hl.1 (Nat.le_of_ble_eq_true rfl) dX4_sectionStatement_40 (fun H locs hW hS => ?_)
  refine lv_aload_n hx hb dX4_sectionStatement_43 rfl (lv_at hl 2 rfl) ?_
  refine fl_get0 (v := .ref (b + (a1 + 3))) (ha1).1 F hW 4 (by decide) q_175 rfl rfl dX4_sectionStatement_44 ?_
  refine lv_iload_n hx hb dX4_sectionStatement_47 rfl (lv_at hl 3 rfl) ?_
  obtain ⟨r3, qr3, h⟩ := ob h
  refine k_X4_number F (by decide) (ha1).2.2.1 qr3 q_670 ⟨Nat.le_of_ble_eq_true rfl, Nat.le_of_ble_eq_true rfl, Nat.le_of_ble_eq_true rfl, Nat.le_of_ble_eq_true rfl⟩ hW hS hl.1 (Nat.le_of_ble_eq_true rfl) dX4_sectionStatement_48 (fun H locs hW hS => ?_)
  refine lv_if_eq (tgt := 83) hx hb dX4_sectionStatement_51 (by decide) (fun cc => ?_) (fun cc => ?_)
  · replace h := (if_pos cc).symm.trans h
    exact wk_X4_sectionStatement_83 F hr ha1 h hW hS (lv_sub hl [1, 2, 3, 0] rfl)
  · replace h := (if_neg cc).symm.trans h
    refine lv_aload_n hx hb dX4_sectionStatement_54 rfl (lv_at hl 1 rfl) ?_
    refine fl_ldcS (index := 133) (tx := "lines") (t := 2) (by decide +kernel) F dX4_sectionStatement_55 ?_
    refine lv_iconst (v := (0 : Int32)) hx hb dX4_sectionStatement_57 (by decide) ?_
    refine lv_sipush (v := (500 : Int32)) hx hb dX4_sectionStatement_58 (by decide) ?_
    refine lv_aload_n hx hb dX4_sectionStatement_61 rfl (lv_at hl 2 rfl) ?_
    refine fl_get0 (v := .ref (b + (a1 + 5))) (ha1).1 F hW 5 (by decide) q_179 rfl rfl dX4_sectionStatement_62 ?_
    refine lv_iload_n hx hb dX4_sectionStatement_65 rfl (lv_at hl 3 rfl) ?_
    obtain ⟨r8, qr8, h⟩ := ob h
    refine k_X4_number F (by decide) (ha1).2.2.2.1 qr8 q_670 ⟨Nat.le_of_ble_eq_true rfl, Nat.le_of_ble_eq_true rfl, Nat.le_of_ble_eq_true rfl, Nat.le_of_ble_eq_true rfl⟩ hW hS hl.1 (Nat.le_of_ble_eq_true rfl) dX4_sectionStatement_66 (fun H locs hW hS => ?_)
    refine lv_if_eq (tgt := 83) hx hb dX4_sectionStatement_69 (by decide) (fun cc => ?_) (fun cc => ?_)
    · replace h := (if_pos cc).symm.trans h
      exact wk_X4_sectionStatement_83 F hr ha1 h hW hS (lv_sub hl [1, 2, 3, 0] rfl)
    · replace h := (if_neg cc).symm.trans h
      refine lv_aload_n hx hb dX4_sectionStatement_72 rfl (lv_at hl 1 rfl) ?_
      obtain ⟨r9, qr9, h⟩ := ob h
      refine k_X4_titleOf F qr9 q_717 ⟨Nat.le_of_ble_eq_true rfl, Nat.le_of_ble_eq_true rfl, Nat.le_of_ble_eq_true rfl, Nat.le_of_ble_eq_true rfl⟩ hW hS hl.1 (Nat.le_of_ble_eq_true rfl) dX4_sectionStatement_73 (fun H locs hW hS => ?_)
      refine lv_if_eq (tgt := 83) hx hb dX4_sectionStatement_76 (by decide) (fun cc => ?_) (fun cc => ?_)
      · replace h := (if_pos cc).symm.trans h
        exact wk_X4_sectionStatement_83 F hr ha1 h hW hS (lv_sub hl [1, 2, 3, 0] rfl)
      · replace h := (if_neg cc).symm.trans h
        refine lv_iconst (v := (1 : Int32)) hx hb dX4_sectionStatement_79 (by decide) ?_
        refine lv_goto (tgt := 84) hx hb dX4_sectionStatement_80 (by decide) ?_
        exact wk_X4_sectionStatement_84 F hr ha1 h hW hS (lv_sub hl [1, 2, 3, 0] rfl)
set_option maxHeartbeats 4000000 in
set_option maxRecDepth 100000 in
theorem wk_X4_sectionStatement {n : Nat} {a1 : Nat} {μ : Mm} {out : (Int32 × Mm)} (F : FX G b RX4 cX4_sectionStatement 5 p s m args meth c) (hr : meth.sig.returnType = some .boolean) (ha1 : okBk a1) (h : sh_X4_sectionStatement n a1 μ = some out) (hW : WH G b μ H) (hS : va_S (fb b) s.heap H locs) (hl : lv_has ls 5 [(0, .ref (b + 5)), (1, .ref (b + a1))]) : W p l e ({ frames := 6, cells := 0, slots := 0, locals := 133 } : Room) s m args below meth c H locs 0 0 (MQ below (QW G b out.2 (some (.int out.1))) args s 0 0 (fb b)) (F0 m 0 ls []) := by
  have hx := F.1
  have hb := F.2.1
  unfold sh_X4_sectionStatement at h
  refine lv_aload_n hx hb dX4_sectionStatement_0 rfl (lv_at hl 1 rfl) ?_
  refine fl_get0 (v := .int (μ.1 a1 2)) (ha1).1 F hW 2 (by decide) q_166 rfl rfl dX4_sectionStatement_1 ?_
  refine lv_bipush (v := (24 : Int32)) hx hb dX4_sectionStatement_4 (by decide) ?_
  refine lv_icmp_lt (tgt := 15) hx hb dX4_sectionStatement_6 (by decide) (fun cc => ?_) (fun cc => ?_)
  · replace h := (if_pos cc).symm.trans h
    refine lv_aload_n hx hb dX4_sectionStatement_15 rfl (lv_at hl 1 rfl) ?_
    refine fl_get0 (v := .int (μ.1 a1 2)) (ha1).1 F hW 2 (by decide) q_166 rfl rfl dX4_sectionStatement_16 ?_
    obtain ⟨v1, ev1⟩ : ∃ y, y = (μ.1 a1 2) := ⟨_, rfl⟩
    have h := nm_at ev1 h
    rw [← ev1]
    refine lv_istore_n (lv' := [(2, .int v1), (0, .ref (b + 5)), (1, .ref (b + a1))]) hx hb dX4_sectionStatement_19 rfl hl (by decide) rfl (fun ls hl => ?_)
    refine lv_aload_n hx hb dX4_sectionStatement_20 rfl (lv_at hl 1 rfl) ?_
    refine fl_get4 (v := .int (μ.1 5 11)) kyf_5 F hW 11 (by decide) q_88 rfl rfl dX4_sectionStatement_21 ?_
    refine lv_if_eq (tgt := 31) hx hb dX4_sectionStatement_24 (by decide) (fun cc => ?_) (fun cc => ?_)
    · replace h := (if_pos cc).symm.trans h
      refine lv_iconst (v := (0 : Int32)) hx hb dX4_sectionStatement_31 (by decide) ?_
      exact wk_X4_sectionStatement_32 F hr ha1 h hW hS (lv_sub hl [1, 2, 0] rfl)
    · replace h := (if_neg cc).symm.trans h
      refine lv_iconst (v := (1 : Int32)) hx hb dX4_sectionStatement_27 (by decide) ?_
      refine lv_goto (tgt := 32) hx hb dX4_sectionStatement_28 (by decide) ?_
      exact wk_X4_sectionStatement_32 F hr ha1 h hW hS (lv_sub hl [1, 2, 0] rfl)
  · replace h := (if_neg cc).symm.trans h
    refine lv_aload_n hx hb dX4_sectionStatement_9 rfl (lv_at hl 0 rfl) ?_
    refine lv_iconst (v := (4 : Int32)) hx hb dX4_sectionStatement_10 (by decide) ?_
    obtain ⟨r10, qr10, h⟩ := ob h
    refine k_X4_fail F qr10 q_665 ⟨Nat.le_of_ble_eq_true rfl, Nat.le_of_ble_eq_true rfl, Nat.le_of_ble_eq_true rfl, Nat.le_of_ble_eq_true rfl⟩ hW hS hl.1 (Nat.le_of_ble_eq_true rfl) dX4_sectionStatement_11 (fun H locs hW hS => ?_)
    obtain ⟨v11, qv11, h⟩ := ob h
    obtain ⟨zv11, qv11⟩ := isB_some qv11
    rw [qv11] at zv11
    rw [qv11]
    cases h
    exact r_bool F hr zv11 hW hS dX4_sectionStatement_14
set_option maxHeartbeats 4000000 in
set_option maxRecDepth 100000 in
theorem c_X4_sectionStatement {l : Launch} {G : Gt} {b : Nat} {n : Nat} {a1 : Nat} {μ : Mm} {out : (Int32 × Mm)} (ha1 : okBk a1) (h : sh_X4_sectionStatement n a1 μ = some out) : Met l yX4_sectionStatement (wU (Cond.code yX4_sectionStatement cX4_sectionStatement 5 (some .boolean))) ({ frames := 6, cells := 0, slots := 0, locals := 133 } : Room) (PcW G b μ [.ref (b + 5), .ref (b + a1)]) (QW G b out.2 (some (.int out.1))) 0 0 (fb b) :=
  met_of [.ref (b + 5), .ref (b + a1)] (by decide) (Nat.le_of_ble_eq_true rfl) (fun F hr hW hl => wk_X4_sectionStatement F hr ha1 h hW va_S.rf hl)
set_option maxHeartbeats 4000000 in
set_option maxRecDepth 100000 in
theorem k_X4_sectionStatement {own : String} {nL : Nat} (F : FX G b own cc nL p s m args meth c) {n : Nat} {a1 : Nat} {μ : Mm} {out : (Int32 × Mm)} (ha1 : okBk a1) (h : sh_X4_sectionStatement n a1 μ = some out) {index : Nat} (hl : Cond.methodLink own index yX4_sectionStatement ∈ TBG) (hR : 6 + 1 ≤ R.frames ∧ 8 + (5 + 11) + 133 ≤ R.locals ∧ cells ≤ R.cells ∧ slots ≤ R.slots) (hW : WH G b μ H) (hS : va_S (fb b) s.heap H locs) (hsz : ls.size = nL) (hrest : (rest.map fun v => v.category).sum ≤ 8) (hdg : decode cc pc = .ok (.invokevirtual index, 3))
    (kk : ∀ (H1 : Heap) (locs1 : List Loc), WH G b out.2 H1 → va_S (fb b) s.heap H1 locs1 → W p l e R s m args below meth c H1 locs1 cells slots Q (F0 m (pc + 3) ls (.int out.1 :: rest))) : W p l e R s m args below meth c H locs cells slots Q (F0 m pc ls (.ref (b + a1) :: .ref (b + 5) :: rest)) :=
  f_callV (As := [.ref (b + a1)]) (ci := 4) (c_X4_sectionStatement ha1 h) ⟨rfl, rfl⟩ rfl (ky_lt kyf_5 (by decide)) (wF_4 kyf_5) q_708 qp_19 q_4 q_709 rfl ⟨by decide +kernel, by decide +kernel, (show (parseMethodDescriptor yX4_sectionStatement.desc).map (fun d => d.parameters.length) = some 1 by decide +kernel)⟩ F hl hR hW hS hsz hrest rfl hdg kk
set_option maxHeartbeats 4000000 in
set_option maxRecDepth 100000 in
theorem wk_X4_statement {n : Nat} {a1 : Nat} {μ : Mm} {out : (Int32 × Mm)} (F : FX G b RX4 cX4_statement 2 p s m args meth c) (hr : meth.sig.returnType = some .boolean) (ha1 : okBk a1) (h : sh_X4_statement n a1 μ = some out) (hW : WH G b μ H) (hS : va_S (fb b) s.heap H locs) (hl : lv_has ls 2 [(0, .ref (b + 5)), (1, .ref (b + a1))]) : W p l e ({ frames := 7, cells := 0, slots := 0, locals := 157 } : Room) s m args below meth c H locs 0 0 (MQ below (QW G b out.2 (some (.int out.1))) args s 0 0 (fb b)) (F0 m 0 ls []) := by
  have hx := F.1
  have hb := F.2.1
  unfold sh_X4_statement at h
  refine lv_aload_n hx hb dX4_statement_0 rfl (lv_at hl 0 rfl) ?_
  refine fl_ldcS (index := 140) (tx := "style") (t := 4) (by decide +kernel) F dX4_statement_1 ?_
  obtain ⟨r1, qr1, h⟩ := ob h
  refine k_X4_isAt F (by decide) qr1 q_613 ⟨Nat.le_of_ble_eq_true rfl, Nat.le_of_ble_eq_true rfl, Nat.le_of_ble_eq_true rfl, Nat.le_of_ble_eq_true rfl⟩ hW hS hl.1 (Nat.le_of_ble_eq_true rfl) dX4_statement_3 (fun H locs hW hS => ?_)
  refine lv_if_eq (tgt := 15) hx hb dX4_statement_6 (by decide) (fun cc => ?_) (fun cc => ?_)
  · replace h := (if_pos cc).symm.trans h
    refine lv_aload_n hx hb dX4_statement_15 rfl (lv_at hl 0 rfl) ?_
    refine fl_ldcS (index := 145) (tx := "right") (t := 10) (by decide +kernel) F dX4_statement_16 ?_
    obtain ⟨r2, qr2, h⟩ := ob h
    refine k_X4_isAt F (by decide) qr2 q_613 ⟨Nat.le_of_ble_eq_true rfl, Nat.le_of_ble_eq_true rfl, Nat.le_of_ble_eq_true rfl, Nat.le_of_ble_eq_true rfl⟩ hW hS hl.1 (Nat.le_of_ble_eq_true rfl) dX4_statement_18 (fun H locs hW hS => ?_)
    refine lv_if_eq (tgt := 30) hx hb dX4_statement_21 (by decide) (fun cc => ?_) (fun cc => ?_)
    · replace h := (if_pos cc).symm.trans h
      refine lv_aload_n hx hb dX4_statement_30 rfl (lv_at hl 0 rfl) ?_
      refine fl_ldcS (index := 150) (tx := "main") (t := 11) (by decide +kernel) F dX4_statement_31 ?_
      obtain ⟨r3, qr3, h⟩ := ob h
      refine k_X4_isAt F (by decide) qr3 q_613 ⟨Nat.le_of_ble_eq_true rfl, Nat.le_of_ble_eq_true rfl, Nat.le_of_ble_eq_true rfl, Nat.le_of_ble_eq_true rfl⟩ hW hS hl.1 (Nat.le_of_ble_eq_true rfl) dX4_statement_33 (fun H locs hW hS => ?_)
      refine lv_if_eq (tgt := 44) hx hb dX4_statement_36 (by decide) (fun cc => ?_) (fun cc => ?_)
      · replace h := (if_pos cc).symm.trans h
        refine lv_aload_n hx hb dX4_statement_44 rfl (lv_at hl 0 rfl) ?_
        refine fl_ldcS (index := 155) (tx := "section") (t := 12) (by decide +kernel) F dX4_statement_45 ?_
        obtain ⟨r4, qr4, h⟩ := ob h
        refine k_X4_isAt F (by decide) qr4 q_613 ⟨Nat.le_of_ble_eq_true rfl, Nat.le_of_ble_eq_true rfl, Nat.le_of_ble_eq_true rfl, Nat.le_of_ble_eq_true rfl⟩ hW hS hl.1 (Nat.le_of_ble_eq_true rfl) dX4_statement_47 (fun H locs hW hS => ?_)
        refine lv_if_eq (tgt := 59) hx hb dX4_statement_50 (by decide) (fun cc => ?_) (fun cc => ?_)
        · replace h := (if_pos cc).symm.trans h
          refine lv_aload_n hx hb dX4_statement_59 rfl (lv_at hl 0 rfl) ?_
          refine lv_iconst (v := (1 : Int32)) hx hb dX4_statement_60 (by decide) ?_
          obtain ⟨r5, qr5, h⟩ := ob h
          refine k_X4_fail F qr5 q_665 ⟨Nat.le_of_ble_eq_true rfl, Nat.le_of_ble_eq_true rfl, Nat.le_of_ble_eq_true rfl, Nat.le_of_ble_eq_true rfl⟩ hW hS hl.1 (Nat.le_of_ble_eq_true rfl) dX4_statement_61 (fun H locs hW hS => ?_)
          obtain ⟨v6, qv6, h⟩ := ob h
          obtain ⟨zv6, qv6⟩ := isB_some qv6
          rw [qv6] at zv6
          rw [qv6]
          cases h
          exact r_bool F hr zv6 hW hS dX4_statement_64
        · replace h := (if_neg cc).symm.trans h
          refine lv_aload_n hx hb dX4_statement_53 rfl (lv_at hl 0 rfl) ?_
          refine lv_aload_n hx hb dX4_statement_54 rfl (lv_at hl 1 rfl) ?_
          obtain ⟨r7, qr7, h⟩ := ob h
          refine k_X4_sectionStatement F ha1 qr7 q_706 ⟨Nat.le_of_ble_eq_true rfl, Nat.le_of_ble_eq_true rfl, Nat.le_of_ble_eq_true rfl, Nat.le_of_ble_eq_true rfl⟩ hW hS hl.1 (Nat.le_of_ble_eq_true rfl) dX4_statement_55 (fun H locs hW hS => ?_)
          obtain ⟨v8, qv8, h⟩ := ob h
          obtain ⟨zv8, qv8⟩ := isB_some qv8
          rw [qv8] at zv8
          rw [qv8]
          cases h
          exact r_bool F hr zv8 hW hS dX4_statement_58
      · replace h := (if_neg cc).symm.trans h
        refine lv_aload_n hx hb dX4_statement_39 rfl (lv_at hl 0 rfl) ?_
        obtain ⟨r9, qr9, h⟩ := ob h
        refine k_X4_mainStatement F qr9 q_701 ⟨Nat.le_of_ble_eq_true rfl, Nat.le_of_ble_eq_true rfl, Nat.le_of_ble_eq_true rfl, Nat.le_of_ble_eq_true rfl⟩ hW hS hl.1 (Nat.le_of_ble_eq_true rfl) dX4_statement_40 (fun H locs hW hS => ?_)
        obtain ⟨v10, qv10, h⟩ := ob h
        obtain ⟨zv10, qv10⟩ := isB_some qv10
        rw [qv10] at zv10
        rw [qv10]
        cases h
        exact r_bool F hr zv10 hW hS dX4_statement_43
    · replace h := (if_neg cc).symm.trans h
      refine lv_aload_n hx hb dX4_statement_24 rfl (lv_at hl 0 rfl) ?_
      refine lv_aload_n hx hb dX4_statement_25 rfl (lv_at hl 1 rfl) ?_
      obtain ⟨r11, qr11, h⟩ := ob h
      refine k_X4_rightStatement F ha1 qr11 q_696 ⟨Nat.le_of_ble_eq_true rfl, Nat.le_of_ble_eq_true rfl, Nat.le_of_ble_eq_true rfl, Nat.le_of_ble_eq_true rfl⟩ hW hS hl.1 (Nat.le_of_ble_eq_true rfl) dX4_statement_26 (fun H locs hW hS => ?_)
      obtain ⟨v12, qv12, h⟩ := ob h
      obtain ⟨zv12, qv12⟩ := isB_some qv12
      rw [qv12] at zv12
      rw [qv12]
      cases h
      exact r_bool F hr zv12 hW hS dX4_statement_29
  · replace h := (if_neg cc).symm.trans h
    refine lv_aload_n hx hb dX4_statement_9 rfl (lv_at hl 0 rfl) ?_
    refine lv_aload_n hx hb dX4_statement_10 rfl (lv_at hl 1 rfl) ?_
    obtain ⟨r13, qr13, h⟩ := ob h
    refine k_X4_styleStatement F ha1 qr13 q_686 ⟨Nat.le_of_ble_eq_true rfl, Nat.le_of_ble_eq_true rfl, Nat.le_of_ble_eq_true rfl, Nat.le_of_ble_eq_true rfl⟩ hW hS hl.1 (Nat.le_of_ble_eq_true rfl) dX4_statement_11 (fun H locs hW hS => ?_)
    obtain ⟨v14, qv14, h⟩ := ob h
    obtain ⟨zv14, qv14⟩ := isB_some qv14
    rw [qv14] at zv14
    rw [qv14]
    cases h
    exact r_bool F hr zv14 hW hS dX4_statement_14
set_option maxHeartbeats 4000000 in
set_option maxRecDepth 100000 in
theorem c_X4_statement {l : Launch} {G : Gt} {b : Nat} {n : Nat} {a1 : Nat} {μ : Mm} {out : (Int32 × Mm)} (ha1 : okBk a1) (h : sh_X4_statement n a1 μ = some out) : Met l yX4_statement (wU (Cond.code yX4_statement cX4_statement 2 (some .boolean))) ({ frames := 7, cells := 0, slots := 0, locals := 157 } : Room) (PcW G b μ [.ref (b + 5), .ref (b + a1)]) (QW G b out.2 (some (.int out.1))) 0 0 (fb b) :=
  met_of [.ref (b + 5), .ref (b + a1)] (by decide) (Nat.le_of_ble_eq_true rfl) (fun F hr hW hl => wk_X4_statement F hr ha1 h hW va_S.rf hl)
set_option maxHeartbeats 4000000 in
set_option maxRecDepth 100000 in
theorem k_X4_statement {own : String} {nL : Nat} (F : FX G b own cc nL p s m args meth c) {n : Nat} {a1 : Nat} {μ : Mm} {out : (Int32 × Mm)} (ha1 : okBk a1) (h : sh_X4_statement n a1 μ = some out) {index : Nat} (hl : Cond.methodLink own index yX4_statement ∈ TBG) (hR : 7 + 1 ≤ R.frames ∧ 8 + (2 + 11) + 157 ≤ R.locals ∧ cells ≤ R.cells ∧ slots ≤ R.slots) (hW : WH G b μ H) (hS : va_S (fb b) s.heap H locs) (hsz : ls.size = nL) (hrest : (rest.map fun v => v.category).sum ≤ 8) (hdg : decode cc pc = .ok (.invokevirtual index, 3))
    (kk : ∀ (H1 : Heap) (locs1 : List Loc), WH G b out.2 H1 → va_S (fb b) s.heap H1 locs1 → W p l e R s m args below meth c H1 locs1 cells slots Q (F0 m (pc + 3) ls (.int out.1 :: rest))) : W p l e R s m args below meth c H locs cells slots Q (F0 m pc ls (.ref (b + a1) :: .ref (b + 5) :: rest)) :=
  f_callV (As := [.ref (b + a1)]) (ci := 4) (c_X4_statement ha1 h) ⟨rfl, rfl⟩ rfl (ky_lt kyf_5 (by decide)) (wF_4 kyf_5) q_683 qp_15 q_4 q_684 rfl ⟨by decide +kernel, by decide +kernel, (show (parseMethodDescriptor yX4_statement.desc).map (fun d => d.parameters.length) = some 1 by decide +kernel)⟩ F hl hR hW hS hsz hrest rfl hdg kk
set_option maxHeartbeats 4000000 in
set_option maxRecDepth 100000 in
theorem wk_X4_readBook_36 {n : Nat} {a1 : Nat} {a2 : Nat} {out : (Int32 × Mm)} (F : FX G b RX4 cX4_readBook 4 p s m args meth c) (hr : meth.sig.returnType = some .boolean) (ha1 : okTx a1) (ha2 : okBk a2) : ∀ (f : Nat) (x3 : Int32) (μ : Mm) (H : Heap) (locs : List Loc) (ls : Array Slot), sh_X4_readBook_36 n a1 a2 f x3 μ = some out → WH G b μ H → va_S (fb b) s.heap H locs → lv_has ls 4 [(0, .ref (b + 5)), (1, .ref (b + a1)), (2, .ref (b + a2)), (3, .int x3)] → W p l e ({ frames := 8, cells := 0, slots := 0, locals := 178 } : Room) s m args below meth c H locs 0 0 (MQ below (QW G b out.2 (some (.int out.1))) args s 0 0 (fb b)) (F0 m 36 ls []) := by
  have hx := F.1
  have hb := F.2.1
  intro f
  induction f with
  | zero =>
    intro _ _ _ _ _ h
    rw [sh_X4_readBook_36] at h
    cases h
  | succ f ih =>
    intro x3 μ H locs ls h hW hS hl
    rw [sh_X4_readBook_36] at h
    have hk36 := ih
    refine lv_iload_n hx hb dX4_readBook_36 rfl (lv_at hl 3 rfl) ?_
    refine lv_aload_n hx hb dX4_readBook_37 rfl (lv_at hl 1 rfl) ?_
    obtain ⟨r7, qr7, h⟩ := ob h
    refine k_X8_length F ha1 qr7 q_595 ⟨Nat.le_of_ble_eq_true rfl, Nat.le_of_ble_eq_true rfl, Nat.le_of_ble_eq_true rfl, Nat.le_of_ble_eq_true rfl⟩ hW hS hl.1 (Nat.le_of_ble_eq_true rfl) dX4_readBook_38 (fun H locs hW hS => ?_)
    refine lv_icmp_ge (tgt := 67) hx hb dX4_readBook_41 (by decide) (fun cc => ?_) (fun cc => ?_)
    · replace h := (if_pos cc).symm.trans h
      refine lv_iconst (v := (1 : Int32)) hx hb dX4_readBook_67 (by decide) ?_
      cases h
      exact r_bool F hr (Or.inr rfl) hW hS dX4_readBook_68
    · replace h := (if_neg cc).symm.trans h
      refine lv_aload_n hx hb dX4_readBook_44 rfl (lv_at hl 0 rfl) ?_
      refine fl_get4 (v := .int (μ.1 5 5)) kyf_5 F hW 5 (by decide) q_82 rfl rfl dX4_readBook_45 ?_
      refine lv_if_eq (tgt := 67) hx hb dX4_readBook_48 (by decide) (fun cc => ?_) (fun cc => ?_)
      · replace h := (if_pos cc).symm.trans h
        refine lv_iconst (v := (1 : Int32)) hx hb dX4_readBook_67 (by decide) ?_
        cases h
        exact r_bool F hr (Or.inr rfl) hW hS dX4_readBook_68
      · replace h := (if_neg cc).symm.trans h
        refine lv_aload_n hx hb dX4_readBook_51 rfl (lv_at hl 0 rfl) ?_
        refine lv_aload_n hx hb dX4_readBook_52 rfl (lv_at hl 2 rfl) ?_
        obtain ⟨r8, qr8, h⟩ := ob h
        refine k_X4_statement F ha2 qr8 q_681 ⟨Nat.le_of_ble_eq_true rfl, Nat.le_of_ble_eq_true rfl, Nat.le_of_ble_eq_true rfl, Nat.le_of_ble_eq_true rfl⟩ hW hS hl.1 (Nat.le_of_ble_eq_true rfl) dX4_readBook_53 (fun H locs hW hS => ?_)
        refine lv_if_ne (tgt := 61) hx hb dX4_readBook_56 (by decide) (fun cc => ?_) (fun cc => ?_)
        · replace h := (if_neg cc).symm.trans h
          refine lv_iinc (v := (x3 + (1 : Int32))) (lv' := [(3, .int (x3 + (1 : Int32))), (0, .ref (b + 5)), (1, .ref (b + a1)), (2, .ref (b + a2))]) hx hb dX4_readBook_61 hl (k := 3) rfl rfl (by decide) rfl (fun ls hl => ?_)
          refine lv_goto (tgt := 36) hx hb dX4_readBook_64 (by decide) ?_
          exact hk36 _ _ _ _ _ h hW hS (lv_sub hl [1, 2, 3, 0] rfl)
        · replace h := (if_pos cc).symm.trans h
          refine lv_iconst (v := (0 : Int32)) hx hb dX4_readBook_59 (by decide) ?_
          cases h
          exact r_bool F hr (Or.inl rfl) hW hS dX4_readBook_60
set_option maxHeartbeats 4000000 in
set_option maxRecDepth 100000 in
theorem wk_X4_readBook {n : Nat} {a1 : Nat} {a2 : Nat} {μ : Mm} {out : (Int32 × Mm)} (F : FX G b RX4 cX4_readBook 4 p s m args meth c) (hr : meth.sig.returnType = some .boolean) (ha1 : okTx a1) (ha2 : okBk a2) (h : sh_X4_readBook n a1 a2 μ = some out) (hW : WH G b μ H) (hS : va_S (fb b) s.heap H locs) (hl : lv_has ls 4 [(0, .ref (b + 5)), (1, .ref (b + a1)), (2, .ref (b + a2))]) : W p l e ({ frames := 8, cells := 0, slots := 0, locals := 178 } : Room) s m args below meth c H locs 0 0 (MQ below (QW G b out.2 (some (.int out.1))) args s 0 0 (fb b)) (F0 m 0 ls []) := by
  have hx := F.1
  have hb := F.2.1
  unfold sh_X4_readBook at h
  refine lv_aload_n hx hb dX4_readBook_0 rfl (lv_at hl 2 rfl) ?_
  obtain ⟨r1, qr1, h⟩ := ob h
  refine k_X0_empty F ha2 qr1 q_586 ⟨Nat.le_of_ble_eq_true rfl, Nat.le_of_ble_eq_true rfl, Nat.le_of_ble_eq_true rfl, Nat.le_of_ble_eq_true rfl⟩ hW hS hl.1 (Nat.le_of_ble_eq_true rfl) dX4_readBook_1 (fun H locs hW hS => ?_)
  refine lv_aload_n hx hb dX4_readBook_4 rfl (lv_at hl 0 rfl) ?_
  refine lv_iconst (v := (0 : Int32)) hx hb dX4_readBook_5 (by decide) ?_
  obtain ⟨μ2, hmμ2, h⟩ := ob h
  refine fl_put4_9 kyf_5 F hW hS q_86 hmμ2 dX4_readBook_6 (fun H locs hW hS => ?_)
  refine lv_aload_n hx hb dX4_readBook_9 rfl (lv_at hl 0 rfl) ?_
  refine lv_iconst (v := (0 : Int32)) hx hb dX4_readBook_10 (by decide) ?_
  obtain ⟨μ3, hmμ3, h⟩ := ob h
  refine fl_put4_10 kyf_5 F hW hS q_87 hmμ3 dX4_readBook_11 (fun H locs hW hS => ?_)
  refine lv_aload_n hx hb dX4_readBook_14 rfl (lv_at hl 0 rfl) ?_
  refine lv_iconst (v := (0 : Int32)) hx hb dX4_readBook_15 (by decide) ?_
  obtain ⟨μ4, hmμ4, h⟩ := ob h
  refine fl_put4_11 kyf_5 F hW hS q_88 hmμ4 dX4_readBook_16 (fun H locs hW hS => ?_)
  refine lv_aload_n hx hb dX4_readBook_19 rfl (lv_at hl 0 rfl) ?_
  refine lv_aload_n hx hb dX4_readBook_20 rfl (lv_at hl 1 rfl) ?_
  obtain ⟨r5, qr5, h⟩ := ob h
  refine k_X4_start F ha1 qr5 q_587 ⟨Nat.le_of_ble_eq_true rfl, Nat.le_of_ble_eq_true rfl, Nat.le_of_ble_eq_true rfl, Nat.le_of_ble_eq_true rfl⟩ hW hS hl.1 (Nat.le_of_ble_eq_true rfl) dX4_readBook_21 (fun H locs hW hS => ?_)
  refine lv_aload_n hx hb dX4_readBook_24 rfl (lv_at hl 0 rfl) ?_
  refine lv_aload_n hx hb dX4_readBook_25 rfl (lv_at hl 2 rfl) ?_
  obtain ⟨r6, qr6, h⟩ := ob h
  refine k_X4_bookStatement F ha2 qr6 q_608 ⟨Nat.le_of_ble_eq_true rfl, Nat.le_of_ble_eq_true rfl, Nat.le_of_ble_eq_true rfl, Nat.le_of_ble_eq_true rfl⟩ hW hS hl.1 (Nat.le_of_ble_eq_true rfl) dX4_readBook_26 (fun H locs hW hS => ?_)
  refine lv_if_ne (tgt := 34) hx hb dX4_readBook_29 (by decide) (fun cc => ?_) (fun cc => ?_)
  · replace h := (if_neg cc).symm.trans h
    refine lv_iconst (v := (0 : Int32)) hx hb dX4_readBook_34 (by decide) ?_
    refine lv_istore_n (lv' := [(3, .int (0 : Int32)), (0, .ref (b + 5)), (1, .ref (b + a1)), (2, .ref (b + a2))]) hx hb dX4_readBook_35 rfl hl (by decide) rfl (fun ls hl => ?_)
    exact wk_X4_readBook_36 F hr ha1 ha2 n _ _ _ _ _ h hW hS (lv_sub hl [1, 2, 3, 0] rfl)
  · replace h := (if_pos cc).symm.trans h
    refine lv_iconst (v := (0 : Int32)) hx hb dX4_readBook_32 (by decide) ?_
    cases h
    exact r_bool F hr (Or.inl rfl) hW hS dX4_readBook_33
set_option maxHeartbeats 4000000 in
set_option maxRecDepth 100000 in
theorem c_X4_readBook {l : Launch} {G : Gt} {b : Nat} {n : Nat} {a1 : Nat} {a2 : Nat} {μ : Mm} {out : (Int32 × Mm)} (ha1 : okTx a1) (ha2 : okBk a2) (h : sh_X4_readBook n a1 a2 μ = some out) : Met l yX4_readBook (wU (Cond.code yX4_readBook cX4_readBook 4 (some .boolean))) ({ frames := 8, cells := 0, slots := 0, locals := 178 } : Room) (PcW G b μ [.ref (b + 5), .ref (b + a1), .ref (b + a2)]) (QW G b out.2 (some (.int out.1))) 0 0 (fb b) :=
  met_of [.ref (b + 5), .ref (b + a1), .ref (b + a2)] (by decide) (Nat.le_of_ble_eq_true rfl) (fun F hr hW hl => wk_X4_readBook F hr ha1 ha2 h hW va_S.rf hl)
set_option maxHeartbeats 4000000 in
set_option maxRecDepth 100000 in
theorem k_X4_readBook {own : String} {nL : Nat} (F : FX G b own cc nL p s m args meth c) {n : Nat} {a1 : Nat} {a2 : Nat} {μ : Mm} {out : (Int32 × Mm)} (ha1 : okTx a1) (ha2 : okBk a2) (h : sh_X4_readBook n a1 a2 μ = some out) {index : Nat} (hl : Cond.methodLink own index yX4_readBook ∈ TBG) (hR : 8 + 1 ≤ R.frames ∧ 8 + (4 + 11) + 178 ≤ R.locals ∧ cells ≤ R.cells ∧ slots ≤ R.slots) (hW : WH G b μ H) (hS : va_S (fb b) s.heap H locs) (hsz : ls.size = nL) (hrest : (rest.map fun v => v.category).sum ≤ 8) (hdg : decode cc pc = .ok (.invokevirtual index, 3))
    (kk : ∀ (H1 : Heap) (locs1 : List Loc), WH G b out.2 H1 → va_S (fb b) s.heap H1 locs1 → W p l e R s m args below meth c H1 locs1 cells slots Q (F0 m (pc + 3) ls (.int out.1 :: rest))) : W p l e R s m args below meth c H locs cells slots Q (F0 m pc ls (.ref (b + a2) :: .ref (b + a1) :: .ref (b + 5) :: rest)) :=
  f_callV (As := [.ref (b + a1), .ref (b + a2)]) (ci := 4) (c_X4_readBook ha1 ha2 h) ⟨rfl, rfl⟩ rfl (ky_lt kyf_5 (by decide)) (wF_4 kyf_5) q_583 q_584 q_4 q_585 rfl ⟨by decide +kernel, by decide +kernel, (show (parseMethodDescriptor yX4_readBook.desc).map (fun d => d.parameters.length) = some 2 by decide +kernel)⟩ F hl hR hW hS hsz hrest rfl hdg kk
set_option maxHeartbeats 4000000 in
set_option maxRecDepth 100000 in
theorem wk_X4_readTitle {n : Nat} {a1 : Nat} {μ : Mm} {out : (Int32 × Mm)} (F : FX G b RX4 cX4_readTitle 2 p s m args meth c) (hr : meth.sig.returnType = some .boolean) (ha1 : okTx a1) (h : sh_X4_readTitle n a1 μ = some out) (hW : WH G b μ H) (hS : va_S (fb b) s.heap H locs) (hl : lv_has ls 2 [(0, .ref (b + 5)), (1, .ref (b + a1))]) : W p l e ({ frames := 3, cells := 0, slots := 0, locals := 69 } : Room) s m args below meth c H locs 0 0 (MQ below (QW G b out.2 (some (.int out.1))) args s 0 0 (fb b)) (F0 m 0 ls []) := by
  have hx := F.1
  have hb := F.2.1
  unfold sh_X4_readTitle at h
  refine lv_aload_n hx hb dX4_readTitle_0 rfl (lv_at hl 0 rfl) ?_
  refine lv_aload_n hx hb dX4_readTitle_1 rfl (lv_at hl 1 rfl) ?_
  obtain ⟨r1, qr1, h⟩ := ob h
  refine k_X4_start F ha1 qr1 q_587 ⟨Nat.le_of_ble_eq_true rfl, Nat.le_of_ble_eq_true rfl, Nat.le_of_ble_eq_true rfl, Nat.le_of_ble_eq_true rfl⟩ hW hS hl.1 (Nat.le_of_ble_eq_true rfl) dX4_readTitle_2 (fun H locs hW hS => ?_)
  refine lv_aload_n hx hb dX4_readTitle_5 rfl (lv_at hl 0 rfl) ?_
  obtain ⟨r2, qr2, h⟩ := ob h
  refine k_X4_titleOf F qr2 q_717 ⟨Nat.le_of_ble_eq_true rfl, Nat.le_of_ble_eq_true rfl, Nat.le_of_ble_eq_true rfl, Nat.le_of_ble_eq_true rfl⟩ hW hS hl.1 (Nat.le_of_ble_eq_true rfl) dX4_readTitle_6 (fun H locs hW hS => ?_)
  refine lv_if_eq (tgt := 23) hx hb dX4_readTitle_9 (by decide) (fun cc => ?_) (fun cc => ?_)
  · replace h := (if_pos cc).symm.trans h
    refine lv_iconst (v := (0 : Int32)) hx hb dX4_readTitle_23 (by decide) ?_
    cases h
    exact r_bool F hr (Or.inl rfl) hW hS dX4_readTitle_24
  · replace h := (if_neg cc).symm.trans h
    refine lv_aload_n hx hb dX4_readTitle_12 rfl (lv_at hl 0 rfl) ?_
    refine fl_get4 (v := .int (r2.2.1 5 5)) kyf_5 F hW 5 (by decide) q_82 rfl rfl dX4_readTitle_13 ?_
    refine lv_if_ne (tgt := 23) hx hb dX4_readTitle_16 (by decide) (fun cc => ?_) (fun cc => ?_)
    · replace h := (if_neg cc).symm.trans h
      refine lv_iconst (v := (0 : Int32)) hx hb dX4_readTitle_23 (by decide) ?_
      cases h
      exact r_bool F hr (Or.inl rfl) hW hS dX4_readTitle_24
    · replace h := (if_pos cc).symm.trans h
      refine lv_iconst (v := (1 : Int32)) hx hb dX4_readTitle_19 (by decide) ?_
      refine lv_goto (tgt := 24) hx hb dX4_readTitle_20 (by decide) ?_
      cases h
      exact r_bool F hr (Or.inr rfl) hW hS dX4_readTitle_24
set_option maxHeartbeats 4000000 in
set_option maxRecDepth 100000 in
theorem c_X4_readTitle {l : Launch} {G : Gt} {b : Nat} {n : Nat} {a1 : Nat} {μ : Mm} {out : (Int32 × Mm)} (ha1 : okTx a1) (h : sh_X4_readTitle n a1 μ = some out) : Met l yX4_readTitle (wU (Cond.code yX4_readTitle cX4_readTitle 2 (some .boolean))) ({ frames := 3, cells := 0, slots := 0, locals := 69 } : Room) (PcW G b μ [.ref (b + 5), .ref (b + a1)]) (QW G b out.2 (some (.int out.1))) 0 0 (fb b) :=
  met_of [.ref (b + 5), .ref (b + a1)] (by decide) (Nat.le_of_ble_eq_true rfl) (fun F hr hW hl => wk_X4_readTitle F hr ha1 h hW va_S.rf hl)
set_option maxHeartbeats 4000000 in
set_option maxRecDepth 100000 in
theorem k_X4_readTitle {own : String} {nL : Nat} (F : FX G b own cc nL p s m args meth c) {n : Nat} {a1 : Nat} {μ : Mm} {out : (Int32 × Mm)} (ha1 : okTx a1) (h : sh_X4_readTitle n a1 μ = some out) {index : Nat} (hl : Cond.methodLink own index yX4_readTitle ∈ TBG) (hR : 3 + 1 ≤ R.frames ∧ 8 + (2 + 11) + 69 ≤ R.locals ∧ cells ≤ R.cells ∧ slots ≤ R.slots) (hW : WH G b μ H) (hS : va_S (fb b) s.heap H locs) (hsz : ls.size = nL) (hrest : (rest.map fun v => v.category).sum ≤ 8) (hdg : decode cc pc = .ok (.invokevirtual index, 3))
    (kk : ∀ (H1 : Heap) (locs1 : List Loc), WH G b out.2 H1 → va_S (fb b) s.heap H1 locs1 → W p l e R s m args below meth c H1 locs1 cells slots Q (F0 m (pc + 3) ls (.int out.1 :: rest))) : W p l e R s m args below meth c H locs cells slots Q (F0 m pc ls (.ref (b + a1) :: .ref (b + 5) :: rest)) :=
  f_callV (As := [.ref (b + a1)]) (ci := 4) (c_X4_readTitle ha1 h) ⟨rfl, rfl⟩ rfl (ky_lt kyf_5 (by decide)) (wF_4 kyf_5) q_1321 q_1322 q_4 q_1323 rfl ⟨by decide +kernel, by decide +kernel, (show (parseMethodDescriptor yX4_readTitle.desc).map (fun d => d.parameters.length) = some 1 by decide +kernel)⟩ F hl hR hW hS hsz hrest rfl hdg kk
set_option maxHeartbeats 4000000 in
set_option maxRecDepth 100000 in
theorem wk_X10_note_125 {n : Nat} {a1 : Int64} {a3 : Int32} {x4 : Int32} {μ : Mm} {out : Mm} (F : FX G b RX10 cX10_note 5 p s m args meth c) (hr : meth.sig.returnType = none) (h : sh_X10_note_125 n a1 a3 x4 μ = some out) (hW : WH G b μ H) (hS : va_S (fb b) s.heap H locs) (hl : lv_has ls 5 [(0, .ref (b + 80)), (3, .int a3), (4, .int x4)]) : W p l e ({ frames := 2, cells := 0, slots := 0, locals := 71 } : Room) s m args below meth c H locs 0 0 (MQ below (QW G b out none) args s 0 0 (fb b)) (F0 m 125 ls []) := by
  have hx := F.1
  have hb := F.2.1
  unfold sh_X10_note_125 at h
  refine lv_aload_n hx hb dX10_note_125 rfl (lv_at hl 0 rfl) ?_
  refine fl_get10 (v := .ref (b + 83)) kyf_80 F hW 1 (by decide) q_392 rfl rfl dX10_note_126 ?_
  refine lv_iload hx hb dX10_note_129 (lv_at hl 2 rfl) ?_
  refine lv_aload_n hx hb dX10_note_131 rfl (lv_at hl 0 rfl) ?_
  refine fl_get10 (v := .ref (b + 83)) kyf_80 F hW 1 (by decide) q_392 rfl rfl dX10_note_132 ?_
  refine lv_iload hx hb dX10_note_135 (lv_at hl 2 rfl) ?_
  obtain ⟨r6, qr6, h⟩ := ob h
  refine k_X5_at F ok_83 qr6 q_851 ⟨Nat.le_of_ble_eq_true rfl, Nat.le_of_ble_eq_true rfl, Nat.le_of_ble_eq_true rfl, Nat.le_of_ble_eq_true rfl⟩ hW hS hl.1 (Nat.le_of_ble_eq_true rfl) dX10_note_137 (fun H locs hW hS => ?_)
  refine lv_iload_n hx hb dX10_note_140 rfl (lv_at hl 1 rfl) ?_
  refine lv_ior hx hb dX10_note_141 ?_
  obtain ⟨r7, qr7, h⟩ := ob h
  refine k_X5_put F ok_83 qr7 q_860 ⟨Nat.le_of_ble_eq_true rfl, Nat.le_of_ble_eq_true rfl, Nat.le_of_ble_eq_true rfl, Nat.le_of_ble_eq_true rfl⟩ hW hS hl.1 (Nat.le_of_ble_eq_true rfl) dX10_note_142 (fun H locs hW hS => ?_)
  cases h
  exact r_void F hr hW hS dX10_note_145
set_option maxHeartbeats 4000000 in
set_option maxRecDepth 100000 in
theorem wk_X10_note_55 {n : Nat} {a1 : Int64} {a3 : Int32} {x4 : Int32} {μ : Mm} {out : Mm} (F : FX G b RX10 cX10_note 5 p s m args meth c) (hr : meth.sig.returnType = none) (h : sh_X10_note_55 n a1 a3 x4 μ = some out) (hW : WH G b μ H) (hS : va_S (fb b) s.heap H locs) (hl : lv_has ls 5 [(0, .ref (b + 80)), (1, .long a1), (3, .int a3), (4, .int x4)]) : W p l e ({ frames := 2, cells := 0, slots := 0, locals := 71 } : Room) s m args below meth c H locs 0 0 (MQ below (QW G b out none) args s 0 0 (fb b)) (F0 m 55 ls []) := by
  have hx := F.1
  have hb := F.2.1
  unfold sh_X10_note_55 at h
  refine lv_aload_n hx hb dX10_note_55 rfl (lv_at hl 0 rfl) ?_
  refine fl_get10 (v := .ref (b + 81)) kyf_80 F hW 0 (by decide) q_391 rfl rfl dX10_note_56 ?_
  refine lv_iload hx hb dX10_note_59 (lv_at hl 3 rfl) ?_
  refine lv_iload hx hb dX10_note_61 (lv_at hl 3 rfl) ?_
  refine lv_iconst (v := (1 : Int32)) hx hb dX10_note_63 (by decide) ?_
  refine lv_iadd hx hb dX10_note_64 ?_
  refine lv_aload_n hx hb dX10_note_65 rfl (lv_at hl 0 rfl) ?_
  refine fl_get10 (v := .int (μ.1 80 2)) kyf_80 F hW 2 (by decide) q_394 rfl rfl dX10_note_66 ?_
  refine lv_iload hx hb dX10_note_69 (lv_at hl 3 rfl) ?_
  refine lv_isub hx hb dX10_note_71 ?_
  obtain ⟨r1, qr1, h⟩ := ob h
  refine k_X9_move F ok_81 qr1 q_857 ⟨Nat.le_of_ble_eq_true rfl, Nat.le_of_ble_eq_true rfl, Nat.le_of_ble_eq_true rfl, Nat.le_of_ble_eq_true rfl⟩ hW hS hl.1 (Nat.le_of_ble_eq_true rfl) dX10_note_72 (fun H locs hW hS => ?_)
  refine lv_aload_n hx hb dX10_note_75 rfl (lv_at hl 0 rfl) ?_
  refine fl_get10 (v := .ref (b + 83)) kyf_80 F hW 1 (by decide) q_392 rfl rfl dX10_note_76 ?_
  refine lv_iload hx hb dX10_note_79 (lv_at hl 3 rfl) ?_
  refine lv_iload hx hb dX10_note_81 (lv_at hl 3 rfl) ?_
  refine lv_iconst (v := (1 : Int32)) hx hb dX10_note_83 (by decide) ?_
  refine lv_iadd hx hb dX10_note_84 ?_
  refine lv_aload_n hx hb dX10_note_85 rfl (lv_at hl 0 rfl) ?_
  refine fl_get10 (v := .int (r1.1 80 2)) kyf_80 F hW 2 (by decide) q_394 rfl rfl dX10_note_86 ?_
  refine lv_iload hx hb dX10_note_89 (lv_at hl 3 rfl) ?_
  refine lv_isub hx hb dX10_note_91 ?_
  obtain ⟨r2, qr2, h⟩ := ob h
  refine k_X5_move F ok_83 qr2 q_858 ⟨Nat.le_of_ble_eq_true rfl, Nat.le_of_ble_eq_true rfl, Nat.le_of_ble_eq_true rfl, Nat.le_of_ble_eq_true rfl⟩ hW hS hl.1 (Nat.le_of_ble_eq_true rfl) dX10_note_92 (fun H locs hW hS => ?_)
  refine lv_aload_n hx hb dX10_note_95 rfl (lv_at hl 0 rfl) ?_
  refine fl_get10 (v := .ref (b + 81)) kyf_80 F hW 0 (by decide) q_391 rfl rfl dX10_note_96 ?_
  refine lv_iload hx hb dX10_note_99 (lv_at hl 3 rfl) ?_
  refine lv_lload_n hx hb dX10_note_101 rfl (lv_at hl 1 rfl) ?_
  obtain ⟨r3, qr3, h⟩ := ob h
  refine k_X9_put F ok_81 qr3 q_859 ⟨Nat.le_of_ble_eq_true rfl, Nat.le_of_ble_eq_true rfl, Nat.le_of_ble_eq_true rfl, Nat.le_of_ble_eq_true rfl⟩ hW hS hl.1 (Nat.le_of_ble_eq_true rfl) dX10_note_102 (fun H locs hW hS => ?_)
  refine lv_aload_n hx hb dX10_note_105 rfl (lv_at hl 0 rfl) ?_
  refine fl_get10 (v := .ref (b + 83)) kyf_80 F hW 1 (by decide) q_392 rfl rfl dX10_note_106 ?_
  refine lv_iload hx hb dX10_note_109 (lv_at hl 3 rfl) ?_
  refine lv_iconst (v := (0 : Int32)) hx hb dX10_note_111 (by decide) ?_
  obtain ⟨r4, qr4, h⟩ := ob h
  refine k_X5_put F ok_83 qr4 q_860 ⟨Nat.le_of_ble_eq_true rfl, Nat.le_of_ble_eq_true rfl, Nat.le_of_ble_eq_true rfl, Nat.le_of_ble_eq_true rfl⟩ hW hS hl.1 (Nat.le_of_ble_eq_true rfl) dX10_note_112 (fun H locs hW hS => ?_)
  refine lv_aload_n hx hb dX10_note_115 rfl (lv_at hl 0 rfl) ?_
  refine lv_dup hx hb dX10_note_116 rfl ?_
  refine fl_get10 (v := .int (r4.1 80 2)) kyf_80 F hW 2 (by decide) q_394 rfl rfl dX10_note_117 ?_
  refine lv_iconst (v := (1 : Int32)) hx hb dX10_note_120 (by decide) ?_
  refine lv_iadd hx hb dX10_note_121 ?_
  obtain ⟨μ5, hmμ5, h⟩ := ob h
  refine fl_put10_2 kyf_80 F hW hS q_394 hmμ5 dX10_note_122 (fun H locs hW hS => ?_)
  exact wk_X10_note_125 F hr h hW hS (lv_sub hl [0, 2, 3] rfl)
set_option maxHeartbeats 4000000 in
set_option maxRecDepth 100000 in
theorem wk_X10_note_32 {n : Nat} {a1 : Int64} {a3 : Int32} {x4 : Int32} {μ : Mm} {out : Mm} (F : FX G b RX10 cX10_note 5 p s m args meth c) (hr : meth.sig.returnType = none) (h : sh_X10_note_32 n a1 a3 x4 μ = some out) (hW : WH G b μ H) (hS : va_S (fb b) s.heap H locs) (hl : lv_has ls 5 [(0, .ref (b + 80)), (1, .long a1), (3, .int a3), (4, .int x4)]) : W p l e ({ frames := 2, cells := 0, slots := 0, locals := 71 } : Room) s m args below meth c H locs 0 0 (MQ below (QW G b out none) args s 0 0 (fb b)) (F0 m 32 ls []) := by
  have hx := F.1
  have hb := F.2.1
  unfold sh_X10_note_32 at h
  refine lv_iload hx hb dX10_note_32 (lv_at hl 3 rfl) ?_
  refine lv_aload_n hx hb dX10_note_34 rfl (lv_at hl 0 rfl) ?_
  refine fl_get10 (v := .int (μ.1 80 2)) kyf_80 F hW 2 (by decide) q_394 rfl rfl dX10_note_35 ?_
  refine lv_icmp_eq (tgt := 55) hx hb dX10_note_38 (by decide) (fun cc => ?_) (fun cc => ?_)
  · replace h := (if_pos cc).symm.trans h
    exact wk_X10_note_55 F hr h hW hS (lv_sub hl [0, 1, 2, 3] rfl)
  · replace h := (if_neg cc).symm.trans h
    refine lv_aload_n hx hb dX10_note_41 rfl (lv_at hl 0 rfl) ?_
    refine fl_get10 (v := .ref (b + 81)) kyf_80 F hW 0 (by decide) q_391 rfl rfl dX10_note_42 ?_
    refine lv_iload hx hb dX10_note_45 (lv_at hl 3 rfl) ?_
    obtain ⟨r8, qr8, h⟩ := ob h
    refine k_X9_at F ok_81 qr8 q_852 ⟨Nat.le_of_ble_eq_true rfl, Nat.le_of_ble_eq_true rfl, Nat.le_of_ble_eq_true rfl, Nat.le_of_ble_eq_true rfl⟩ hW hS hl.1 (Nat.le_of_ble_eq_true rfl) dX10_note_47 (fun H locs hW hS => ?_)
    refine lv_lload_n hx hb dX10_note_50 rfl (lv_at hl 1 rfl) ?_
    refine W.lcmp hx hb dX10_note_51 ?_
    refine lv_if_eq (tgt := 125) hx hb dX10_note_52 (by decide) (fun cc => ?_) (fun cc => ?_)
    · replace h := (if_pos cc).symm.trans h
      exact wk_X10_note_125 F hr h hW hS (lv_sub hl [0, 2, 3] rfl)
    · replace h := (if_neg cc).symm.trans h
      exact wk_X10_note_55 F hr h hW hS (lv_sub hl [0, 1, 2, 3] rfl)
set_option maxHeartbeats 4000000 in
set_option maxRecDepth 100000 in
theorem wk_X10_note_3 {n : Nat} {a1 : Int64} {a3 : Int32} {out : Mm} (F : FX G b RX10 cX10_note 5 p s m args meth c) (hr : meth.sig.returnType = none) : ∀ (f : Nat) (x4 : Int32) (μ : Mm) (H : Heap) (locs : List Loc) (ls : Array Slot), sh_X10_note_3 n a1 a3 f x4 μ = some out → WH G b μ H → va_S (fb b) s.heap H locs → lv_has ls 5 [(0, .ref (b + 80)), (1, .long a1), (3, .int a3), (4, .int x4)] → W p l e ({ frames := 2, cells := 0, slots := 0, locals := 71 } : Room) s m args below meth c H locs 0 0 (MQ below (QW G b out none) args s 0 0 (fb b)) (F0 m 3 ls []) := by
  have hx := F.1
  have hb := F.2.1
  intro f
  induction f with
  | zero =>
    intro _ _ _ _ _ h
    rw [sh_X10_note_3] at h
    cases h
  | succ f ih =>
    intro x4 μ H locs ls h hW hS hl
    rw [sh_X10_note_3] at h
    have hk3 := ih
    refine lv_iload hx hb dX10_note_3 (lv_at hl 3 rfl) ?_
    refine lv_aload_n hx hb dX10_note_5 rfl (lv_at hl 0 rfl) ?_
    refine fl_get10 (v := .int (μ.1 80 2)) kyf_80 F hW 2 (by decide) q_394 rfl rfl dX10_note_6 ?_
    refine lv_icmp_ge (tgt := 32) hx hb dX10_note_9 (by decide) (fun cc => ?_) (fun cc => ?_)
    · replace h := (if_pos cc).symm.trans h
      exact wk_X10_note_32 F hr h hW hS (lv_sub hl [0, 1, 2, 3] rfl)
    · replace h := (if_neg cc).symm.trans h
      refine lv_aload_n hx hb dX10_note_12 rfl (lv_at hl 0 rfl) ?_
      refine fl_get10 (v := .ref (b + 81)) kyf_80 F hW 0 (by decide) q_391 rfl rfl dX10_note_13 ?_
      refine lv_iload hx hb dX10_note_16 (lv_at hl 3 rfl) ?_
      obtain ⟨r9, qr9, h⟩ := ob h
      refine k_X9_at F ok_81 qr9 q_852 ⟨Nat.le_of_ble_eq_true rfl, Nat.le_of_ble_eq_true rfl, Nat.le_of_ble_eq_true rfl, Nat.le_of_ble_eq_true rfl⟩ hW hS hl.1 (Nat.le_of_ble_eq_true rfl) dX10_note_18 (fun H locs hW hS => ?_)
      refine lv_lload_n hx hb dX10_note_21 rfl (lv_at hl 1 rfl) ?_
      refine W.lcmp hx hb dX10_note_22 ?_
      refine lv_if_ge (tgt := 32) hx hb dX10_note_23 (by decide) (fun cc => ?_) (fun cc => ?_)
      · replace h := (if_pos cc).symm.trans h
        exact wk_X10_note_32 F hr h hW hS (lv_sub hl [0, 1, 2, 3] rfl)
      · replace h := (if_neg cc).symm.trans h
        refine lv_iinc (v := (x4 + (1 : Int32))) (lv' := [(4, .int (x4 + (1 : Int32))), (0, .ref (b + 80)), (1, .long a1), (3, .int a3)]) hx hb dX10_note_26 hl (k := 3) rfl rfl (by decide) rfl (fun ls hl => ?_)
        refine lv_goto (tgt := 3) hx hb dX10_note_29 (by decide) ?_
        exact hk3 _ _ _ _ _ h hW hS (lv_sub hl [1, 2, 3, 0] rfl)
set_option maxHeartbeats 4000000 in
set_option maxRecDepth 100000 in
theorem wk_X10_note {n : Nat} {a1 : Int64} {a3 : Int32} {μ : Mm} {out : Mm} (F : FX G b RX10 cX10_note 5 p s m args meth c) (hr : meth.sig.returnType = none) (h : sh_X10_note n a1 a3 μ = some out) (hW : WH G b μ H) (hS : va_S (fb b) s.heap H locs) (hl : lv_has ls 5 [(0, .ref (b + 80)), (1, .long a1), (3, .int a3)]) : W p l e ({ frames := 2, cells := 0, slots := 0, locals := 71 } : Room) s m args below meth c H locs 0 0 (MQ below (QW G b out none) args s 0 0 (fb b)) (F0 m 0 ls []) := by
  have hx := F.1
  have hb := F.2.1
  unfold sh_X10_note at h
  refine lv_iconst (v := (0 : Int32)) hx hb dX10_note_0 (by decide) ?_
  refine lv_istore (lv' := [(4, .int (0 : Int32)), (0, .ref (b + 80)), (1, .long a1), (3, .int a3)]) hx hb dX10_note_1 hl (by decide) rfl (fun ls hl => ?_)
  exact wk_X10_note_3 F hr n _ _ _ _ _ h hW hS (lv_sub hl [1, 2, 3, 0] rfl)
set_option maxHeartbeats 4000000 in
set_option maxRecDepth 100000 in
theorem c_X10_note {l : Launch} {G : Gt} {b : Nat} {n : Nat} {a1 : Int64} {a3 : Int32} {μ : Mm} {out : Mm} (h : sh_X10_note n a1 a3 μ = some out) : Met l yX10_note (wU (Cond.code yX10_note cX10_note 5 none)) ({ frames := 2, cells := 0, slots := 0, locals := 71 } : Room) (PcW G b μ [.ref (b + 80), .long a1, .int a3]) (QW G b out none) 0 0 (fb b) :=
  met_of [.ref (b + 80), .long a1, .int a3] (by decide) (Nat.le_of_ble_eq_true rfl) (fun F hr hW hl => wk_X10_note F hr h hW va_S.rf hl)
set_option maxHeartbeats 4000000 in
set_option maxRecDepth 100000 in
theorem k_X10_note {own : String} {nL : Nat} (F : FX G b own cc nL p s m args meth c) {n : Nat} {a1 : Int64} {a3 : Int32} {μ : Mm} {out : Mm} (h : sh_X10_note n a1 a3 μ = some out) {index : Nat} (hl : Cond.methodLink own index yX10_note ∈ TBG) (hR : 2 + 1 ≤ R.frames ∧ 8 + (5 + 11) + 71 ≤ R.locals ∧ cells ≤ R.cells ∧ slots ≤ R.slots) (hW : WH G b μ H) (hS : va_S (fb b) s.heap H locs) (hsz : ls.size = nL) (hrest : (rest.map fun v => v.category).sum ≤ 8) (hdg : decode cc pc = .ok (.invokevirtual index, 3))
    (kk : ∀ (H1 : Heap) (locs1 : List Loc), WH G b out H1 → va_S (fb b) s.heap H1 locs1 → W p l e R s m args below meth c H1 locs1 cells slots Q (F0 m (pc + 3) ls (rest))) : W p l e R s m args below meth c H locs cells slots Q (F0 m pc ls (.int a3 :: .long a1 :: .ref (b + 80) :: rest)) :=
  f_callV (As := [.long a1, .int a3]) (ci := 10) (c_X10_note h) ⟨rfl, rfl⟩ rfl (ky_lt kyf_80 (by decide)) (wF_10 kyf_80) q_855 qp_25 q_13 q_856 rfl ⟨by decide +kernel, by decide +kernel, (show (parseMethodDescriptor yX10_note.desc).map (fun d => d.parameters.length) = some 2 by decide +kernel)⟩ F hl hR hW hS hsz hrest rfl hdg kk
set_option maxHeartbeats 4000000 in
set_option maxRecDepth 100000 in
theorem wk_X10_gather_17 {n : Nat} {a1 : Nat} {k7 : (Int32 → Mm → Option Mm)} {out : Mm} (F : FX G b RX10 cX10_gather 4 p s m args meth c) (hr : meth.sig.returnType = none) (ha1 : okBk a1) (hk7 : ∀ (x2 : Int32) (μ : Mm) (H : Heap) (locs : List Loc) (ls : Array Slot), k7 x2 μ = some out → WH G b μ H → va_S (fb b) s.heap H locs → lv_has ls 4 [(0, .ref (b + 80)), (1, .ref (b + a1)), (2, .int x2)] → W p l e ({ frames := 3, cells := 0, slots := 0, locals := 95 } : Room) s m args below meth c H locs 0 0 (MQ below (QW G b out none) args s 0 0 (fb b)) (F0 m 7 ls [])) : ∀ (f : Nat) (x2 : Int32) (x3 : Int32) (μ : Mm) (H : Heap) (locs : List Loc) (ls : Array Slot), sh_X10_gather_17 n a1 k7 f x2 x3 μ = some out → WH G b μ H → va_S (fb b) s.heap H locs → lv_has ls 4 [(0, .ref (b + 80)), (1, .ref (b + a1)), (2, .int x2), (3, .int x3)] → W p l e ({ frames := 3, cells := 0, slots := 0, locals := 95 } : Room) s m args below meth c H locs 0 0 (MQ below (QW G b out none) args s 0 0 (fb b)) (F0 m 17 ls []) := by
  have hx := F.1
  have hb := F.2.1
  intro f
  induction f with
  | zero =>
    intro _ _ _ _ _ _ h
    rw [sh_X10_gather_17] at h
    cases h
  | succ f ih =>
    intro x2 x3 μ H locs ls h hW hS hl
    rw [sh_X10_gather_17] at h
    have hk17 := ih
    refine lv_iload_n hx hb dX10_gather_17 rfl (lv_at hl 3 rfl) ?_
    refine lv_aload_n hx hb dX10_gather_18 rfl (lv_at hl 1 rfl) ?_
    refine fl_get0 (v := .ref (b + (a1 + 7))) (ha1).1 F hW 6 (by decide) q_181 rfl rfl dX10_gather_19 ?_
    refine lv_iload_n hx hb dX10_gather_22 rfl (lv_at hl 2 rfl) ?_
    obtain ⟨r2, qr2, h⟩ := ob h
    refine k_X5_at F (ha1).2.2.2.2.1 qr2 q_851 ⟨Nat.le_of_ble_eq_true rfl, Nat.le_of_ble_eq_true rfl, Nat.le_of_ble_eq_true rfl, Nat.le_of_ble_eq_true rfl⟩ hW hS hl.1 (Nat.le_of_ble_eq_true rfl) dX10_gather_23 (fun H locs hW hS => ?_)
    refine lv_icmp_ge (tgt := 55) hx hb dX10_gather_26 (by decide) (fun cc => ?_) (fun cc => ?_)
    · replace h := (if_pos cc).symm.trans h
      refine lv_iinc (v := (x2 + (1 : Int32))) (lv' := [(2, .int (x2 + (1 : Int32))), (0, .ref (b + 80)), (1, .ref (b + a1)), (3, .int x3)]) hx hb dX10_gather_55 hl (k := 2) rfl rfl (by decide) rfl (fun ls hl => ?_)
      refine lv_goto (tgt := 7) hx hb dX10_gather_58 (by decide) ?_
      exact hk7 _ _ _ _ _ h hW hS (lv_sub hl [1, 2, 0] rfl)
    · replace h := (if_neg cc).symm.trans h
      refine lv_aload_n hx hb dX10_gather_29 rfl (lv_at hl 0 rfl) ?_
      refine lv_aload_n hx hb dX10_gather_30 rfl (lv_at hl 1 rfl) ?_
      refine fl_get0 (v := .ref (b + (a1 + 9))) (ha1).1 F hW 7 (by decide) q_186 rfl rfl dX10_gather_31 ?_
      refine lv_iload_n hx hb dX10_gather_34 rfl (lv_at hl 2 rfl) ?_
      refine lv_bipush (v := (8 : Int32)) hx hb dX10_gather_35 (by decide) ?_
      refine lv_imul hx hb dX10_gather_37 ?_
      refine lv_iload_n hx hb dX10_gather_38 rfl (lv_at hl 3 rfl) ?_
      refine lv_iadd hx hb dX10_gather_39 ?_
      obtain ⟨r3, qr3, h⟩ := ob h
      refine k_X9_at F (ha1).2.2.2.2.2.1 qr3 q_852 ⟨Nat.le_of_ble_eq_true rfl, Nat.le_of_ble_eq_true rfl, Nat.le_of_ble_eq_true rfl, Nat.le_of_ble_eq_true rfl⟩ hW hS hl.1 (Nat.le_of_ble_eq_true rfl) dX10_gather_40 (fun H locs hW hS => ?_)
      refine lv_iconst (v := (1 : Int32)) hx hb dX10_gather_43 (by decide) ?_
      refine lv_iload_n hx hb dX10_gather_44 rfl (lv_at hl 2 rfl) ?_
      refine lv_ishl hx hb dX10_gather_45 ?_
      obtain ⟨r4, qr4, h⟩ := ob h
      refine k_X10_note F qr4 q_853 ⟨Nat.le_of_ble_eq_true rfl, Nat.le_of_ble_eq_true rfl, Nat.le_of_ble_eq_true rfl, Nat.le_of_ble_eq_true rfl⟩ hW hS hl.1 (Nat.le_of_ble_eq_true rfl) dX10_gather_46 (fun H locs hW hS => ?_)
      refine lv_iinc (v := (x3 + (1 : Int32))) (lv' := [(3, .int (x3 + (1 : Int32))), (0, .ref (b + 80)), (1, .ref (b + a1)), (2, .int x2)]) hx hb dX10_gather_49 hl (k := 3) rfl rfl (by decide) rfl (fun ls hl => ?_)
      refine lv_goto (tgt := 17) hx hb dX10_gather_52 (by decide) ?_
      exact hk17 _ _ _ _ _ _ h hW hS (lv_sub hl [1, 2, 3, 0] rfl)
set_option maxHeartbeats 4000000 in
set_option maxRecDepth 100000 in
theorem wk_X10_gather_7 {n : Nat} {a1 : Nat} {out : Mm} (F : FX G b RX10 cX10_gather 4 p s m args meth c) (hr : meth.sig.returnType = none) (ha1 : okBk a1) : ∀ (f : Nat) (x2 : Int32) (μ : Mm) (H : Heap) (locs : List Loc) (ls : Array Slot), sh_X10_gather_7 n a1 f x2 μ = some out → WH G b μ H → va_S (fb b) s.heap H locs → lv_has ls 4 [(0, .ref (b + 80)), (1, .ref (b + a1)), (2, .int x2)] → W p l e ({ frames := 3, cells := 0, slots := 0, locals := 95 } : Room) s m args below meth c H locs 0 0 (MQ below (QW G b out none) args s 0 0 (fb b)) (F0 m 7 ls []) := by
  have hx := F.1
  have hb := F.2.1
  intro f
  induction f with
  | zero =>
    intro _ _ _ _ _ h
    rw [sh_X10_gather_7] at h
    cases h
  | succ f ih =>
    intro x2 μ H locs ls h hW hS hl
    rw [sh_X10_gather_7] at h
    have hk7 := ih
    refine lv_iload_n hx hb dX10_gather_7 rfl (lv_at hl 2 rfl) ?_
    refine lv_aload_n hx hb dX10_gather_8 rfl (lv_at hl 1 rfl) ?_
    refine fl_get0 (v := .int (μ.1 a1 2)) (ha1).1 F hW 2 (by decide) q_159 rfl rfl dX10_gather_9 ?_
    refine lv_icmp_ge (tgt := 61) hx hb dX10_gather_12 (by decide) (fun cc => ?_) (fun cc => ?_)
    · replace h := (if_pos cc).symm.trans h
      cases h
      exact r_void F hr hW hS dX10_gather_61
    · replace h := (if_neg cc).symm.trans h
      refine lv_iconst (v := (0 : Int32)) hx hb dX10_gather_15 (by decide) ?_
      refine lv_istore_n (lv' := [(3, .int (0 : Int32)), (0, .ref (b + 80)), (1, .ref (b + a1)), (2, .int x2)]) hx hb dX10_gather_16 rfl hl (by decide) rfl (fun ls hl => ?_)
      exact wk_X10_gather_17 F hr ha1 hk7 n _ _ _ _ _ _ h hW hS (lv_sub hl [1, 2, 3, 0] rfl)
set_option maxHeartbeats 4000000 in
set_option maxRecDepth 100000 in
theorem wk_X10_gather {n : Nat} {a1 : Nat} {μ : Mm} {out : Mm} (F : FX G b RX10 cX10_gather 4 p s m args meth c) (hr : meth.sig.returnType = none) (ha1 : okBk a1) (h : sh_X10_gather n a1 μ = some out) (hW : WH G b μ H) (hS : va_S (fb b) s.heap H locs) (hl : lv_has ls 4 [(0, .ref (b + 80)), (1, .ref (b + a1))]) : W p l e ({ frames := 3, cells := 0, slots := 0, locals := 95 } : Room) s m args below meth c H locs 0 0 (MQ below (QW G b out none) args s 0 0 (fb b)) (F0 m 0 ls []) := by
  have hx := F.1
  have hb := F.2.1
  unfold sh_X10_gather at h
  refine lv_aload_n hx hb dX10_gather_0 rfl (lv_at hl 0 rfl) ?_
  refine lv_iconst (v := (0 : Int32)) hx hb dX10_gather_1 (by decide) ?_
  obtain ⟨μ1, hmμ1, h⟩ := ob h
  refine fl_put10_2 kyf_80 F hW hS q_394 hmμ1 dX10_gather_2 (fun H locs hW hS => ?_)
  refine lv_iconst (v := (0 : Int32)) hx hb dX10_gather_5 (by decide) ?_
  refine lv_istore_n (lv' := [(2, .int (0 : Int32)), (0, .ref (b + 80)), (1, .ref (b + a1))]) hx hb dX10_gather_6 rfl hl (by decide) rfl (fun ls hl => ?_)
  exact wk_X10_gather_7 F hr ha1 n _ _ _ _ _ h hW hS (lv_sub hl [1, 2, 0] rfl)
set_option maxHeartbeats 4000000 in
set_option maxRecDepth 100000 in
theorem c_X10_gather {l : Launch} {G : Gt} {b : Nat} {n : Nat} {a1 : Nat} {μ : Mm} {out : Mm} (ha1 : okBk a1) (h : sh_X10_gather n a1 μ = some out) : Met l yX10_gather (wU (Cond.code yX10_gather cX10_gather 4 none)) ({ frames := 3, cells := 0, slots := 0, locals := 95 } : Room) (PcW G b μ [.ref (b + 80), .ref (b + a1)]) (QW G b out none) 0 0 (fb b) :=
  met_of [.ref (b + 80), .ref (b + a1)] (by decide) (Nat.le_of_ble_eq_true rfl) (fun F hr hW hl => wk_X10_gather F hr ha1 h hW va_S.rf hl)
set_option maxHeartbeats 4000000 in
set_option maxRecDepth 100000 in
theorem k_X10_gather {own : String} {nL : Nat} (F : FX G b own cc nL p s m args meth c) {n : Nat} {a1 : Nat} {μ : Mm} {out : Mm} (ha1 : okBk a1) (h : sh_X10_gather n a1 μ = some out) {index : Nat} (hl : Cond.methodLink own index yX10_gather ∈ TBG) (hR : 3 + 1 ≤ R.frames ∧ 8 + (4 + 11) + 95 ≤ R.locals ∧ cells ≤ R.cells ∧ slots ≤ R.slots) (hW : WH G b μ H) (hS : va_S (fb b) s.heap H locs) (hsz : ls.size = nL) (hrest : (rest.map fun v => v.category).sum ≤ 8) (hdg : decode cc pc = .ok (.invokevirtual index, 3))
    (kk : ∀ (H1 : Heap) (locs1 : List Loc), WH G b out H1 → va_S (fb b) s.heap H1 locs1 → W p l e R s m args below meth c H1 locs1 cells slots Q (F0 m (pc + 3) ls (rest))) : W p l e R s m args below meth c H locs cells slots Q (F0 m pc ls (.ref (b + a1) :: .ref (b + 80) :: rest)) :=
  f_callV (As := [.ref (b + a1)]) (ci := 10) (c_X10_gather ha1 h) ⟨rfl, rfl⟩ rfl (ky_lt kyf_80 (by decide)) (wF_10 kyf_80) q_848 q_849 q_13 q_850 rfl ⟨by decide +kernel, by decide +kernel, (show (parseMethodDescriptor yX10_gather.desc).map (fun d => d.parameters.length) = some 1 by decide +kernel)⟩ F hl hR hW hS hsz hrest rfl hdg kk
set_option maxHeartbeats 4000000 in
set_option maxRecDepth 100000 in
theorem wk_X10_indexOf_2 {n : Nat} {a1 : Int64} {μ : Mm} {out : Int32} (F : FX G b RX10 cX10_indexOf 4 p s m args meth c) (hr : meth.sig.returnType = some .int) : ∀ (f : Nat) (x3 : Int32) (H : Heap) (locs : List Loc) (ls : Array Slot), sh_X10_indexOf_2 n a1 μ f x3 = some out → WH G b μ H → va_S (fb b) s.heap H locs → lv_has ls 4 [(0, .ref (b + 80)), (1, .long a1), (3, .int x3)] → W p l e ({ frames := 1, cells := 0, slots := 0, locals := 21 } : Room) s m args below meth c H locs 0 0 (MQ below (QW G b μ (some (.int out))) args s 0 0 (fb b)) (F0 m 2 ls []) := by
  have hx := F.1
  have hb := F.2.1
  intro f
  induction f with
  | zero =>
    intro _ _ _ _ h
    rw [sh_X10_indexOf_2] at h
    cases h
  | succ f ih =>
    intro x3  H locs ls h hW hS hl
    rw [sh_X10_indexOf_2] at h
    have hk2 := ih
    refine lv_iload_n hx hb dX10_indexOf_2 rfl (lv_at hl 2 rfl) ?_
    refine lv_aload_n hx hb dX10_indexOf_3 rfl (lv_at hl 0 rfl) ?_
    refine fl_get10 (v := .int (μ.1 80 2)) kyf_80 F hW 2 (by decide) q_394 rfl rfl dX10_indexOf_4 ?_
    refine lv_icmp_ge (tgt := 31) hx hb dX10_indexOf_7 (by decide) (fun cc => ?_) (fun cc => ?_)
    · replace h := (if_pos cc).symm.trans h
      refine lv_iconst (v := (-1 : Int32)) hx hb dX10_indexOf_31 (by decide) ?_
      cases h
      exact r_int F hr hW hS dX10_indexOf_32
    · replace h := (if_neg cc).symm.trans h
      refine lv_aload_n hx hb dX10_indexOf_10 rfl (lv_at hl 0 rfl) ?_
      refine fl_get10 (v := .ref (b + 81)) kyf_80 F hW 0 (by decide) q_391 rfl rfl dX10_indexOf_11 ?_
      refine lv_iload_n hx hb dX10_indexOf_14 rfl (lv_at hl 2 rfl) ?_
      obtain ⟨r1, qr1, h⟩ := ob h
      refine k_X9_at F ok_81 qr1 q_852 ⟨Nat.le_of_ble_eq_true rfl, Nat.le_of_ble_eq_true rfl, Nat.le_of_ble_eq_true rfl, Nat.le_of_ble_eq_true rfl⟩ hW hS hl.1 (Nat.le_of_ble_eq_true rfl) dX10_indexOf_15 (fun H locs hW hS => ?_)
      refine lv_lload_n hx hb dX10_indexOf_18 rfl (lv_at hl 1 rfl) ?_
      refine W.lcmp hx hb dX10_indexOf_19 ?_
      refine lv_if_ne (tgt := 25) hx hb dX10_indexOf_20 (by decide) (fun cc => ?_) (fun cc => ?_)
      · replace h := (if_neg cc).symm.trans h
        refine lv_iinc (v := (x3 + (1 : Int32))) (lv' := [(3, .int (x3 + (1 : Int32))), (0, .ref (b + 80)), (1, .long a1)]) hx hb dX10_indexOf_25 hl (k := 2) rfl rfl (by decide) rfl (fun ls hl => ?_)
        refine lv_goto (tgt := 2) hx hb dX10_indexOf_28 (by decide) ?_
        exact hk2 _ _ _ _ h hW hS (lv_sub hl [1, 2, 0] rfl)
      · replace h := (if_pos cc).symm.trans h
        refine lv_iload_n hx hb dX10_indexOf_23 rfl (lv_at hl 2 rfl) ?_
        cases h
        exact r_int F hr hW hS dX10_indexOf_24
set_option maxHeartbeats 4000000 in
set_option maxRecDepth 100000 in
theorem wk_X10_indexOf {n : Nat} {a1 : Int64} {μ : Mm} {out : Int32} (F : FX G b RX10 cX10_indexOf 4 p s m args meth c) (hr : meth.sig.returnType = some .int) (h : sh_X10_indexOf n a1 μ = some out) (hW : WH G b μ H) (hS : va_S (fb b) s.heap H locs) (hl : lv_has ls 4 [(0, .ref (b + 80)), (1, .long a1)]) : W p l e ({ frames := 1, cells := 0, slots := 0, locals := 21 } : Room) s m args below meth c H locs 0 0 (MQ below (QW G b μ (some (.int out))) args s 0 0 (fb b)) (F0 m 0 ls []) := by
  have hx := F.1
  have hb := F.2.1
  unfold sh_X10_indexOf at h
  refine lv_iconst (v := (0 : Int32)) hx hb dX10_indexOf_0 (by decide) ?_
  refine lv_istore_n (lv' := [(3, .int (0 : Int32)), (0, .ref (b + 80)), (1, .long a1)]) hx hb dX10_indexOf_1 rfl hl (by decide) rfl (fun ls hl => ?_)
  exact wk_X10_indexOf_2 F hr n _ _ _ _ h hW hS (lv_sub hl [1, 2, 0] rfl)
set_option maxHeartbeats 4000000 in
set_option maxRecDepth 100000 in
theorem c_X10_indexOf {l : Launch} {G : Gt} {b : Nat} {n : Nat} {a1 : Int64} {μ : Mm} {out : Int32} (h : sh_X10_indexOf n a1 μ = some out) : Met l yX10_indexOf (wU (Cond.code yX10_indexOf cX10_indexOf 4 (some .int))) ({ frames := 1, cells := 0, slots := 0, locals := 21 } : Room) (PcW G b μ [.ref (b + 80), .long a1]) (QW G b μ (some (.int out))) 0 0 (fb b) :=
  met_of [.ref (b + 80), .long a1] (by decide) (Nat.le_of_ble_eq_true rfl) (fun F hr hW hl => wk_X10_indexOf F hr h hW va_S.rf hl)
set_option maxHeartbeats 4000000 in
set_option maxRecDepth 100000 in
theorem k_X10_indexOf {own : String} {nL : Nat} (F : FX G b own cc nL p s m args meth c) {n : Nat} {a1 : Int64} {μ : Mm} {out : Int32} (h : sh_X10_indexOf n a1 μ = some out) {index : Nat} (hl : Cond.methodLink own index yX10_indexOf ∈ TBG) (hR : 1 + 1 ≤ R.frames ∧ 8 + (4 + 11) + 21 ≤ R.locals ∧ cells ≤ R.cells ∧ slots ≤ R.slots) (hW : WH G b μ H) (hS : va_S (fb b) s.heap H locs) (hsz : ls.size = nL) (hrest : (rest.map fun v => v.category).sum ≤ 8) (hdg : decode cc pc = .ok (.invokevirtual index, 3))
    (kk : ∀ (H1 : Heap) (locs1 : List Loc), WH G b μ H1 → va_S (fb b) s.heap H1 locs1 → W p l e R s m args below meth c H1 locs1 cells slots Q (F0 m (pc + 3) ls (.int out :: rest))) : W p l e R s m args below meth c H locs cells slots Q (F0 m pc ls (.long a1 :: .ref (b + 80) :: rest)) :=
  f_callV (As := [.long a1]) (ci := 10) (c_X10_indexOf h) ⟨rfl, rfl⟩ rfl (ky_lt kyf_80 (by decide)) (wF_10 kyf_80) q_868 q_869 q_13 q_870 rfl ⟨by decide +kernel, by decide +kernel, (show (parseMethodDescriptor yX10_indexOf.desc).map (fun d => d.parameters.length) = some 1 by decide +kernel)⟩ F hl hR hW hS hsz hrest rfl hdg kk
end G14
