section G153
variable {p : Program} {l : Launch} {e : Env} {R : Room} {s : State} {m : MethodId} {args : Array Value} {below : List Frame} {meth : Method} {c : Code} {H : Heap} {locs : List Loc} {cells slots : Nat} {Q : State → Prop}
variable {cc : ByteArray} {pc : Nat} {ls : Array Slot} {rest : List Value} {G : Gt} {b : Nat}

set_option maxHeartbeats 4000000 in
set_option maxRecDepth 100000 in
theorem wk_X12_takeTitle_24 {n : Nat} {a1 : Int32} {out : Mm} (F : FX (fg G) b RX12 cX12_takeTitle 2 p s m args meth c) (hr : meth.sig.returnType = none) : ∀ (f : Nat) (μ : Mm) (H : Heap) (locs : List Loc) (ls : Array Slot), sh_X12_takeTitle_24 n a1 f μ = some out → WH (fg G) b μ H → va_S (fb b) s.heap H locs → lv_has ls 2 [(0, .ref (b + 306)), (1, .int a1)] → W p l e ({ frames := 2, cells := 0, slots := 0, locals := 46 } : Room) s m args below meth c H locs 0 0 (MQ below (QW (fg G) b out none) args s 0 0 (fb b)) (F0 m 24 ls []) := by
  have hx := F.1
  have hb := F.2.1
  intro f
  induction f with
  | zero =>
    intro _ _ _ _ h
    rw [sh_X12_takeTitle_24] at h
    cases h
  | succ f ih =>
    intro μ H locs ls h hW hS hl
    rw [sh_X12_takeTitle_24] at h
    have hk24 := ih
    refine lv_aload_n hx hb dX12_takeTitle_24 rfl (lv_at hl 0 rfl) ?_
    refine fl_get12 (v := .int (μ.1 306 9)) kyf_306 F hW 9 (by decide) q_1480 rfl rfl dX12_takeTitle_25 ?_
    refine lv_if_eq (tgt := 43) hx hb dX12_takeTitle_28 (by decide) (fun cc => ?_) (fun cc => ?_)
    · replace h := (if_pos cc).symm.trans h
      refine lv_aload_n hx hb dX12_takeTitle_43 rfl (lv_at hl 0 rfl) ?_
      refine lv_iconst (v := (0 : Int32)) hx hb dX12_takeTitle_44 (by decide) ?_
      obtain ⟨μ5, hmμ5, h⟩ := ob h
      refine fl_put12_5 kyf_306 F hW hS q_1476 hmμ5 dX12_takeTitle_45 (fun H locs hW hS => ?_)
      cases h
      exact r_void F hr hW hS dX12_takeTitle_48
    · replace h := (if_neg cc).symm.trans h
      refine lv_aload_n hx hb dX12_takeTitle_31 rfl (lv_at hl 0 rfl) ?_
      refine lv_iload_n hx hb dX12_takeTitle_32 rfl (lv_at hl 1 rfl) ?_
      obtain ⟨r6, qr6, h⟩ := ob h
      refine k_X12_keepWord F qr6 q_1743 ⟨Nat.le_of_ble_eq_true rfl, Nat.le_of_ble_eq_true rfl, Nat.le_of_ble_eq_true rfl, Nat.le_of_ble_eq_true rfl⟩ hW hS hl.1 (Nat.le_of_ble_eq_true rfl) dX12_takeTitle_33 (fun H locs hW hS => ?_)
      refine lv_aload_n hx hb dX12_takeTitle_36 rfl (lv_at hl 0 rfl) ?_
      obtain ⟨r7, qr7, h⟩ := ob h
      refine k_X12_scan F qr7 q_1650 ⟨Nat.le_of_ble_eq_true rfl, Nat.le_of_ble_eq_true rfl, Nat.le_of_ble_eq_true rfl, Nat.le_of_ble_eq_true rfl⟩ hW hS hl.1 (Nat.le_of_ble_eq_true rfl) dX12_takeTitle_37 (fun H locs hW hS => ?_)
      refine lv_goto (tgt := 24) hx hb dX12_takeTitle_40 (by decide) ?_
      exact hk24 _ _ _ _ h hW hS (lv_sub hl [0, 1] rfl)
set_option maxHeartbeats 4000000 in
set_option maxRecDepth 100000 in
theorem wk_X12_takeTitle {n : Nat} {a1 : Int32} {μ : Mm} {out : Mm} (F : FX (fg G) b RX12 cX12_takeTitle 2 p s m args meth c) (hr : meth.sig.returnType = none) (h : sh_X12_takeTitle n a1 μ = some out) (hW : WH (fg G) b μ H) (hS : va_S (fb b) s.heap H locs) (hl : lv_has ls 2 [(0, .ref (b + 306)), (1, .int a1)]) : W p l e ({ frames := 2, cells := 0, slots := 0, locals := 46 } : Room) s m args below meth c H locs 0 0 (MQ below (QW (fg G) b out none) args s 0 0 (fb b)) (F0 m 0 ls []) := by
  have hx := F.1
  have hb := F.2.1
  unfold sh_X12_takeTitle at h
  refine lv_aload_n hx hb dX12_takeTitle_0 rfl (lv_at hl 0 rfl) ?_
  refine lv_aload_n hx hb dX12_takeTitle_1 rfl (lv_at hl 0 rfl) ?_
  refine fl_get12 (v := .int (μ.1 306 5)) kyf_306 F hW 5 (by decide) q_1476 rfl rfl dX12_takeTitle_2 ?_
  obtain ⟨μ1, hmμ1, h⟩ := ob h
  refine fl_put12_6 kyf_306 F hW hS q_1477 hmμ1 dX12_takeTitle_5 (fun H locs hW hS => ?_)
  refine lv_aload_n hx hb dX12_takeTitle_8 rfl (lv_at hl 0 rfl) ?_
  refine lv_iconst (v := (0 : Int32)) hx hb dX12_takeTitle_9 (by decide) ?_
  obtain ⟨μ2, hmμ2, h⟩ := ob h
  refine fl_put12_7 kyf_306 F hW hS q_1478 hmμ2 dX12_takeTitle_10 (fun H locs hW hS => ?_)
  refine lv_aload_n hx hb dX12_takeTitle_13 rfl (lv_at hl 0 rfl) ?_
  refine lv_iload_n hx hb dX12_takeTitle_14 rfl (lv_at hl 1 rfl) ?_
  refine lv_iconst (v := (3 : Int32)) hx hb dX12_takeTitle_15 (by decide) ?_
  refine lv_iconst (v := (0 : Int32)) hx hb dX12_takeTitle_16 (by decide) ?_
  obtain ⟨r3, qr3, h⟩ := ob h
  refine k_X12_set F qr3 q_1727 ⟨Nat.le_of_ble_eq_true rfl, Nat.le_of_ble_eq_true rfl, Nat.le_of_ble_eq_true rfl, Nat.le_of_ble_eq_true rfl⟩ hW hS hl.1 (Nat.le_of_ble_eq_true rfl) dX12_takeTitle_17 (fun H locs hW hS => ?_)
  refine lv_aload_n hx hb dX12_takeTitle_20 rfl (lv_at hl 0 rfl) ?_
  obtain ⟨r4, qr4, h⟩ := ob h
  refine k_X12_scan F qr4 q_1650 ⟨Nat.le_of_ble_eq_true rfl, Nat.le_of_ble_eq_true rfl, Nat.le_of_ble_eq_true rfl, Nat.le_of_ble_eq_true rfl⟩ hW hS hl.1 (Nat.le_of_ble_eq_true rfl) dX12_takeTitle_21 (fun H locs hW hS => ?_)
  exact wk_X12_takeTitle_24 F hr n _ _ _ _ h hW hS (lv_sub hl [0, 1] rfl)
set_option maxHeartbeats 4000000 in
set_option maxRecDepth 100000 in
theorem c_X12_takeTitle {l : Launch} {G : Gt} {b : Nat} {n : Nat} {a1 : Int32} {μ : Mm} {out : Mm} (h : sh_X12_takeTitle n a1 μ = some out) : Met l yX12_takeTitle (wU (Cond.code yX12_takeTitle cX12_takeTitle 2 none)) ({ frames := 2, cells := 0, slots := 0, locals := 46 } : Room) (PcW (fg G) b μ [.ref (b + 306), .int a1]) (QW (fg G) b out none) 0 0 (fb b) :=
  met_of [.ref (b + 306), .int a1] (by decide) (Nat.le_of_ble_eq_true rfl) (fun F hr hW hl => wk_X12_takeTitle F hr h hW va_S.rf hl)
set_option maxHeartbeats 4000000 in
set_option maxRecDepth 100000 in
theorem k_X12_takeTitle {own : String} {nL : Nat} (F : FX (fg G) b own cc nL p s m args meth c) {n : Nat} {a1 : Int32} {μ : Mm} {out : Mm} (h : sh_X12_takeTitle n a1 μ = some out) {index : Nat} (hl : Cond.methodLink own index yX12_takeTitle ∈ TBG) (hR : 2 + 1 ≤ R.frames ∧ 8 + (2 + 11) + 46 ≤ R.locals ∧ cells ≤ R.cells ∧ slots ≤ R.slots) (hW : WH (fg G) b μ H) (hS : va_S (fb b) s.heap H locs) (hsz : ls.size = nL) (hrest : (rest.map fun v => v.category).sum ≤ 8) (hdg : decode cc pc = .ok (.invokevirtual index, 3))
    (kk : ∀ (H1 : Heap) (locs1 : List Loc), WH (fg G) b out H1 → va_S (fb b) s.heap H1 locs1 → W p l e R s m args below meth c H1 locs1 cells slots Q (F0 m (pc + 3) ls (rest))) : W p l e R s m args below meth c H locs cells slots Q (F0 m pc ls (.int a1 :: .ref (b + 306) :: rest)) :=
  f_callV (As := [.int a1]) (ci := 12) (c_X12_takeTitle h) ⟨rfl, rfl⟩ rfl (ky_lm kyf_306 (by decide)) (wF_12 kyf_306) q_2041 qp_105 q_14 q_2042 rfl ⟨by decide +kernel, by decide +kernel, (show (parseMethodDescriptor yX12_takeTitle.desc).map (fun d => d.parameters.length) = some 1 by decide +kernel)⟩ F hl hR hW hS hsz hrest rfl hdg kk
set_option maxHeartbeats 4000000 in
set_option maxRecDepth 100000 in
theorem wk_X12_setTitle {n : Nat} {a1 : Int32} {μ : Mm} {out : (Int32 × Mm)} (F : FX (fg G) b RX12 cX12_setTitle 3 p s m args meth c) (hr : meth.sig.returnType = some .int) (h : sh_X12_setTitle n a1 μ = some out) (hW : WH (fg G) b μ H) (hS : va_S (fb b) s.heap H locs) (hl : lv_has ls 3 [(0, .ref (b + 306)), (1, .int a1)]) : W p l e ({ frames := 3, cells := 0, slots := 0, locals := 68 } : Room) s m args below meth c H locs 0 0 (MQ below (QW (fg G) b out.2 (some (.int out.1))) args s 0 0 (fb b)) (F0 m 0 ls []) := by
  have hx := F.1
  have hb := F.2.1
  unfold sh_X12_setTitle at h
  refine lv_aload_n hx hb dX12_setTitle_0 rfl (lv_at hl 0 rfl) ?_
  refine lv_aload_n hx hb dX12_setTitle_1 rfl (lv_at hl 0 rfl) ?_
  refine lv_iload_n hx hb dX12_setTitle_2 rfl (lv_at hl 1 rfl) ?_
  obtain ⟨r1, qr1, h⟩ := ob h
  refine k_X12_isSection F qr1 q_1868 ⟨Nat.le_of_ble_eq_true rfl, Nat.le_of_ble_eq_true rfl, Nat.le_of_ble_eq_true rfl, Nat.le_of_ble_eq_true rfl⟩ hW hS hl.1 (Nat.le_of_ble_eq_true rfl) dX12_setTitle_3 (fun H locs hW hS => ?_)
  refine lv_aload_n hx hb dX12_setTitle_6 rfl (lv_at hl 0 rfl) ?_
  obtain ⟨r2, qr2, h⟩ := ob h
  refine k_X12_isTitle F qr2 q_2035 ⟨Nat.le_of_ble_eq_true rfl, Nat.le_of_ble_eq_true rfl, Nat.le_of_ble_eq_true rfl, Nat.le_of_ble_eq_true rfl⟩ hW hS hl.1 (Nat.le_of_ble_eq_true rfl) dX12_setTitle_7 (fun H locs hW hS => ?_)
  obtain ⟨r3, qr3, h⟩ := ob h
  refine k_X12_passes2 F qr3 q_1873 ⟨Nat.le_of_ble_eq_true rfl, Nat.le_of_ble_eq_true rfl, Nat.le_of_ble_eq_true rfl, Nat.le_of_ble_eq_true rfl⟩ hW hS hl.1 (Nat.le_of_ble_eq_true rfl) dX12_setTitle_10 (fun H locs hW hS => ?_)
  refine lv_if_ne (tgt := 18) hx hb dX12_setTitle_13 (by decide) (fun cc => ?_) (fun cc => ?_)
  · replace h := (if_neg cc).symm.trans h
    refine lv_aload_n hx hb dX12_setTitle_18 rfl (lv_at hl 0 rfl) ?_
    obtain ⟨r4, qr4, h⟩ := ob h
    refine k_X12_remember F qr4 q_1747 ⟨Nat.le_of_ble_eq_true rfl, Nat.le_of_ble_eq_true rfl, Nat.le_of_ble_eq_true rfl, Nat.le_of_ble_eq_true rfl⟩ hW hS hl.1 (Nat.le_of_ble_eq_true rfl) dX12_setTitle_19 (fun H locs hW hS => ?_)
    refine lv_aload_n hx hb dX12_setTitle_22 rfl (lv_at hl 0 rfl) ?_
    refine lv_iload_n hx hb dX12_setTitle_23 rfl (lv_at hl 1 rfl) ?_
    refine lv_iconst (v := (3 : Int32)) hx hb dX12_setTitle_24 (by decide) ?_
    obtain ⟨r5, qr5, h⟩ := ob h
    refine k_X12_of F qr5 q_1735 ⟨Nat.le_of_ble_eq_true rfl, Nat.le_of_ble_eq_true rfl, Nat.le_of_ble_eq_true rfl, Nat.le_of_ble_eq_true rfl⟩ hW hS hl.1 (Nat.le_of_ble_eq_true rfl) dX12_setTitle_25 (fun H locs hW hS => ?_)
    refine lv_istore_n (lv' := [(2, .int r5), (0, .ref (b + 306)), (1, .int a1)]) hx hb dX12_setTitle_28 rfl hl (by decide) rfl (fun ls hl => ?_)
    refine lv_aload_n hx hb dX12_setTitle_29 rfl (lv_at hl 1 rfl) ?_
    refine lv_iload_n hx hb dX12_setTitle_30 rfl (lv_at hl 2 rfl) ?_
    obtain ⟨r6, qr6, h⟩ := ob h
    refine k_X12_takeTitle F qr6 q_2039 ⟨Nat.le_of_ble_eq_true rfl, Nat.le_of_ble_eq_true rfl, Nat.le_of_ble_eq_true rfl, Nat.le_of_ble_eq_true rfl⟩ hW hS hl.1 (Nat.le_of_ble_eq_true rfl) dX12_setTitle_31 (fun H locs hW hS => ?_)
    refine lv_iload_n hx hb dX12_setTitle_34 rfl (lv_at hl 0 rfl) ?_
    cases h
    exact r_int F hr hW hS dX12_setTitle_35
  · replace h := (if_pos cc).symm.trans h
    refine lv_iconst (v := (0 : Int32)) hx hb dX12_setTitle_16 (by decide) ?_
    cases h
    exact r_int F hr hW hS dX12_setTitle_17
set_option maxHeartbeats 4000000 in
set_option maxRecDepth 100000 in
theorem c_X12_setTitle {l : Launch} {G : Gt} {b : Nat} {n : Nat} {a1 : Int32} {μ : Mm} {out : (Int32 × Mm)} (h : sh_X12_setTitle n a1 μ = some out) : Met l yX12_setTitle (wU (Cond.code yX12_setTitle cX12_setTitle 3 (some .int))) ({ frames := 3, cells := 0, slots := 0, locals := 68 } : Room) (PcW (fg G) b μ [.ref (b + 306), .int a1]) (QW (fg G) b out.2 (some (.int out.1))) 0 0 (fb b) :=
  met_of [.ref (b + 306), .int a1] (by decide) (Nat.le_of_ble_eq_true rfl) (fun F hr hW hl => wk_X12_setTitle F hr h hW va_S.rf hl)
set_option maxHeartbeats 4000000 in
set_option maxRecDepth 100000 in
theorem k_X12_setTitle {own : String} {nL : Nat} (F : FX (fg G) b own cc nL p s m args meth c) {n : Nat} {a1 : Int32} {μ : Mm} {out : (Int32 × Mm)} (h : sh_X12_setTitle n a1 μ = some out) {index : Nat} (hl : Cond.methodLink own index yX12_setTitle ∈ TBG) (hR : 3 + 1 ≤ R.frames ∧ 8 + (3 + 11) + 68 ≤ R.locals ∧ cells ≤ R.cells ∧ slots ≤ R.slots) (hW : WH (fg G) b μ H) (hS : va_S (fb b) s.heap H locs) (hsz : ls.size = nL) (hrest : (rest.map fun v => v.category).sum ≤ 8) (hdg : decode cc pc = .ok (.invokevirtual index, 3))
    (kk : ∀ (H1 : Heap) (locs1 : List Loc), WH (fg G) b out.2 H1 → va_S (fb b) s.heap H1 locs1 → W p l e R s m args below meth c H1 locs1 cells slots Q (F0 m (pc + 3) ls (.int out.1 :: rest))) : W p l e R s m args below meth c H locs cells slots Q (F0 m pc ls (.int a1 :: .ref (b + 306) :: rest)) :=
  f_callV (As := [.int a1]) (ci := 12) (c_X12_setTitle h) ⟨rfl, rfl⟩ rfl (ky_lm kyf_306 (by decide)) (wF_12 kyf_306) q_2032 q_2033 q_14 q_2034 rfl ⟨by decide +kernel, by decide +kernel, (show (parseMethodDescriptor yX12_setTitle.desc).map (fun d => d.parameters.length) = some 1 by decide +kernel)⟩ F hl hR hW hS hsz hrest rfl hdg kk
set_option maxHeartbeats 4000000 in
set_option maxRecDepth 100000 in
theorem wk_X12_moveSections_105 {n : Nat} {a1 : Int32} {a2 : Int32} {μ : Mm} {out : Mm} (F : FX (fg G) b RX12 cX12_moveSections 4 p s m args meth c) (hr : meth.sig.returnType = none) (h : sh_X12_moveSections_105 n a1 a2 μ = some out) (hW : WH (fg G) b μ H) (hS : va_S (fb b) s.heap H locs) (hl : lv_has ls 4 [(0, .ref (b + 306)), (2, .int a2)]) : W p l e ({ frames := 0, cells := 0, slots := 0, locals := 0 } : Room) s m args below meth c H locs 0 0 (MQ below (QW (fg G) b out none) args s 0 0 (fb b)) (F0 m 105 ls []) := by
  have hx := F.1
  have hb := F.2.1
  unfold sh_X12_moveSections_105 at h
  refine lv_aload_n hx hb dX12_moveSections_105 rfl (lv_at hl 0 rfl) ?_
  refine fl_get12 (v := .ref (b + 307)) kyf_306 F hW 1 (by decide) q_1472 rfl rfl dX12_moveSections_106 ?_
  refine lv_bipush (v := (9 : Int32)) hx hb dX12_moveSections_109 (by decide) ?_
  refine lv_dup2_11 hx hb dX12_moveSections_111 rfl rfl ?_
  obtain ⟨v3, qv3, h⟩ := ob h
  refine fm_iald kyf_307 F hW qv3 dX12_moveSections_112 ?_
  refine lv_iload_n hx hb dX12_moveSections_113 rfl (lv_at hl 1 rfl) ?_
  refine lv_iadd hx hb dX12_moveSections_114 ?_
  obtain ⟨μ4, qμ4, h⟩ := ob h
  refine fm_iast kyf_307 F hW hS qμ4 dX12_moveSections_115 (fun H locs hW hS => ?_)
  cases h
  exact r_void F hr hW hS dX12_moveSections_116
set_option maxHeartbeats 4000000 in
set_option maxRecDepth 100000 in
theorem wk_X12_moveSections_62 {n : Nat} {a1 : Int32} {a2 : Int32} {out : Mm} (F : FX (fg G) b RX12 cX12_moveSections 4 p s m args meth c) (hr : meth.sig.returnType = none) : ∀ (f : Nat) (x3 : Int32) (μ : Mm) (H : Heap) (locs : List Loc) (ls : Array Slot), sh_X12_moveSections_62 n a1 a2 f x3 μ = some out → WH (fg G) b μ H → va_S (fb b) s.heap H locs → lv_has ls 4 [(0, .ref (b + 306)), (2, .int a2), (3, .int x3)] → W p l e ({ frames := 0, cells := 0, slots := 0, locals := 0 } : Room) s m args below meth c H locs 0 0 (MQ below (QW (fg G) b out none) args s 0 0 (fb b)) (F0 m 62 ls []) := by
  have hx := F.1
  have hb := F.2.1
  intro f
  induction f with
  | zero =>
    intro _ _ _ _ _ h
    rw [sh_X12_moveSections_62] at h
    cases h
  | succ f ih =>
    intro x3 μ H locs ls h hW hS hl
    rw [sh_X12_moveSections_62] at h
    have hk62 := ih
    refine lv_iload_n hx hb dX12_moveSections_62 rfl (lv_at hl 2 rfl) ?_
    refine lv_bipush (v := (102 : Int32)) hx hb dX12_moveSections_63 (by decide) ?_
    refine lv_aload_n hx hb dX12_moveSections_65 rfl (lv_at hl 0 rfl) ?_
    refine fl_get12 (v := .ref (b + 307)) kyf_306 F hW 1 (by decide) q_1472 rfl rfl dX12_moveSections_66 ?_
    refine lv_bipush (v := (9 : Int32)) hx hb dX12_moveSections_69 (by decide) ?_
    obtain ⟨v2, qv2, h⟩ := ob h
    refine fm_iald kyf_307 F hW qv2 dX12_moveSections_71 ?_
    refine lv_imul hx hb dX12_moveSections_72 ?_
    refine lv_icmp_ge (tgt := 105) hx hb dX12_moveSections_73 (by decide) (fun cc => ?_) (fun cc => ?_)
    · replace h := (if_pos cc).symm.trans h
      exact wk_X12_moveSections_105 F hr h hW hS (lv_sub hl [0, 1] rfl)
    · replace h := (if_neg cc).symm.trans h
      refine lv_aload_n hx hb dX12_moveSections_76 rfl (lv_at hl 0 rfl) ?_
      refine fl_get12 (v := .ref (b + 307)) kyf_306 F hW 1 (by decide) q_1472 rfl rfl dX12_moveSections_77 ?_
      refine lv_bipush (v := (12 : Int32)) hx hb dX12_moveSections_80 (by decide) ?_
      refine lv_iload_n hx hb dX12_moveSections_82 rfl (lv_at hl 2 rfl) ?_
      refine lv_iadd hx hb dX12_moveSections_83 ?_
      refine lv_bipush (v := (102 : Int32)) hx hb dX12_moveSections_84 (by decide) ?_
      refine lv_iload_n hx hb dX12_moveSections_86 rfl (lv_at hl 1 rfl) ?_
      refine lv_imul hx hb dX12_moveSections_87 ?_
      refine lv_iadd hx hb dX12_moveSections_88 ?_
      refine lv_aload_n hx hb dX12_moveSections_89 rfl (lv_at hl 0 rfl) ?_
      refine fl_get12 (v := .ref (b + 307)) kyf_306 F hW 1 (by decide) q_1472 rfl rfl dX12_moveSections_90 ?_
      refine lv_bipush (v := (12 : Int32)) hx hb dX12_moveSections_93 (by decide) ?_
      refine lv_iload_n hx hb dX12_moveSections_95 rfl (lv_at hl 2 rfl) ?_
      refine lv_iadd hx hb dX12_moveSections_96 ?_
      obtain ⟨v5, qv5, h⟩ := ob h
      refine fm_iald kyf_307 F hW qv5 dX12_moveSections_97 ?_
      obtain ⟨μ6, qμ6, h⟩ := ob h
      refine fm_iast kyf_307 F hW hS qμ6 dX12_moveSections_98 (fun H locs hW hS => ?_)
      refine lv_iinc (v := (x3 + (1 : Int32))) (lv' := [(3, .int (x3 + (1 : Int32))), (0, .ref (b + 306)), (2, .int a2)]) hx hb dX12_moveSections_99 hl (k := 2) rfl rfl (by decide) rfl (fun ls hl => ?_)
      refine lv_goto (tgt := 62) hx hb dX12_moveSections_102 (by decide) ?_
      exact hk62 _ _ _ _ _ h hW hS (lv_sub hl [1, 2, 0] rfl)
set_option maxHeartbeats 4000000 in
set_option maxRecDepth 100000 in
theorem wk_X12_moveSections_17 {n : Nat} {a1 : Int32} {a2 : Int32} {out : Mm} (F : FX (fg G) b RX12 cX12_moveSections 4 p s m args meth c) (hr : meth.sig.returnType = none) : ∀ (f : Nat) (x3 : Int32) (μ : Mm) (H : Heap) (locs : List Loc) (ls : Array Slot), sh_X12_moveSections_17 n a1 a2 f x3 μ = some out → WH (fg G) b μ H → va_S (fb b) s.heap H locs → lv_has ls 4 [(0, .ref (b + 306)), (1, .int a1), (2, .int a2), (3, .int x3)] → W p l e ({ frames := 0, cells := 0, slots := 0, locals := 0 } : Room) s m args below meth c H locs 0 0 (MQ below (QW (fg G) b out none) args s 0 0 (fb b)) (F0 m 17 ls []) := by
  have hx := F.1
  have hb := F.2.1
  intro f
  induction f with
  | zero =>
    intro _ _ _ _ _ h
    rw [sh_X12_moveSections_17] at h
    cases h
  | succ f ih =>
    intro x3 μ H locs ls h hW hS hl
    rw [sh_X12_moveSections_17] at h
    have hk17 := ih
    refine lv_iload_n hx hb dX12_moveSections_17 rfl (lv_at hl 3 rfl) ?_
    refine lv_bipush (v := (102 : Int32)) hx hb dX12_moveSections_18 (by decide) ?_
    refine lv_iload_n hx hb dX12_moveSections_20 rfl (lv_at hl 1 rfl) ?_
    refine lv_imul hx hb dX12_moveSections_21 ?_
    refine lv_icmp_lt (tgt := 54) hx hb dX12_moveSections_22 (by decide) (fun cc => ?_) (fun cc => ?_)
    · replace h := (if_pos cc).symm.trans h
      refine lv_goto (tgt := 105) hx hb dX12_moveSections_54 (by decide) ?_
      exact wk_X12_moveSections_105 F hr h hW hS (lv_sub hl [0, 2] rfl)
    · replace h := (if_neg cc).symm.trans h
      refine lv_aload_n hx hb dX12_moveSections_25 rfl (lv_at hl 0 rfl) ?_
      refine fl_get12 (v := .ref (b + 307)) kyf_306 F hW 1 (by decide) q_1472 rfl rfl dX12_moveSections_26 ?_
      refine lv_bipush (v := (12 : Int32)) hx hb dX12_moveSections_29 (by decide) ?_
      refine lv_iload_n hx hb dX12_moveSections_31 rfl (lv_at hl 3 rfl) ?_
      refine lv_iadd hx hb dX12_moveSections_32 ?_
      refine lv_bipush (v := (102 : Int32)) hx hb dX12_moveSections_33 (by decide) ?_
      refine lv_iload_n hx hb dX12_moveSections_35 rfl (lv_at hl 2 rfl) ?_
      refine lv_imul hx hb dX12_moveSections_36 ?_
      refine lv_iadd hx hb dX12_moveSections_37 ?_
      refine lv_aload_n hx hb dX12_moveSections_38 rfl (lv_at hl 0 rfl) ?_
      refine fl_get12 (v := .ref (b + 307)) kyf_306 F hW 1 (by decide) q_1472 rfl rfl dX12_moveSections_39 ?_
      refine lv_bipush (v := (12 : Int32)) hx hb dX12_moveSections_42 (by decide) ?_
      refine lv_iload_n hx hb dX12_moveSections_44 rfl (lv_at hl 3 rfl) ?_
      refine lv_iadd hx hb dX12_moveSections_45 ?_
      obtain ⟨v9, qv9, h⟩ := ob h
      refine fm_iald kyf_307 F hW qv9 dX12_moveSections_46 ?_
      obtain ⟨μ10, qμ10, h⟩ := ob h
      refine fm_iast kyf_307 F hW hS qμ10 dX12_moveSections_47 (fun H locs hW hS => ?_)
      refine lv_iinc (v := (x3 + (-1 : Int32))) (lv' := [(3, .int (x3 + (-1 : Int32))), (0, .ref (b + 306)), (1, .int a1), (2, .int a2)]) hx hb dX12_moveSections_48 hl (k := 3) rfl rfl (by decide) rfl (fun ls hl => ?_)
      refine lv_goto (tgt := 17) hx hb dX12_moveSections_51 (by decide) ?_
      exact hk17 _ _ _ _ _ h hW hS (lv_sub hl [1, 2, 3, 0] rfl)
set_option maxHeartbeats 4000000 in
set_option maxRecDepth 100000 in
theorem wk_X12_moveSections {n : Nat} {a1 : Int32} {a2 : Int32} {μ : Mm} {out : Mm} (F : FX (fg G) b RX12 cX12_moveSections 4 p s m args meth c) (hr : meth.sig.returnType = none) (h : sh_X12_moveSections n a1 a2 μ = some out) (hW : WH (fg G) b μ H) (hS : va_S (fb b) s.heap H locs) (hl : lv_has ls 4 [(0, .ref (b + 306)), (1, .int a1), (2, .int a2)]) : W p l e ({ frames := 0, cells := 0, slots := 0, locals := 0 } : Room) s m args below meth c H locs 0 0 (MQ below (QW (fg G) b out none) args s 0 0 (fb b)) (F0 m 0 ls []) := by
  have hx := F.1
  have hb := F.2.1
  unfold sh_X12_moveSections at h
  refine lv_iload_n hx hb dX12_moveSections_0 rfl (lv_at hl 2 rfl) ?_
  refine lv_if_le (tgt := 57) hx hb dX12_moveSections_1 (by decide) (fun cc => ?_) (fun cc => ?_)
  · replace h := (if_pos cc).symm.trans h
    refine lv_bipush (v := (102 : Int32)) hx hb dX12_moveSections_57 (by decide) ?_
    refine lv_iload_n hx hb dX12_moveSections_59 rfl (lv_at hl 1 rfl) ?_
    refine lv_imul hx hb dX12_moveSections_60 ?_
    obtain ⟨v1, ev1⟩ : ∃ y, y = ((102 : Int32) * a1) := ⟨_, rfl⟩
    have h := nm_at ev1 h
    rw [← ev1]
    refine lv_istore_n (lv' := [(3, .int v1), (0, .ref (b + 306)), (1, .int a1), (2, .int a2)]) hx hb dX12_moveSections_61 rfl hl (by decide) rfl (fun ls hl => ?_)
    exact wk_X12_moveSections_62 F hr n _ _ _ _ _ h hW hS (lv_sub hl [1, 3, 0] rfl)
  · replace h := (if_neg cc).symm.trans h
    refine lv_bipush (v := (102 : Int32)) hx hb dX12_moveSections_4 (by decide) ?_
    refine lv_aload_n hx hb dX12_moveSections_6 rfl (lv_at hl 0 rfl) ?_
    refine fl_get12 (v := .ref (b + 307)) kyf_306 F hW 1 (by decide) q_1472 rfl rfl dX12_moveSections_7 ?_
    refine lv_bipush (v := (9 : Int32)) hx hb dX12_moveSections_10 (by decide) ?_
    obtain ⟨v7, qv7, h⟩ := ob h
    refine fm_iald kyf_307 F hW qv7 dX12_moveSections_12 ?_
    refine lv_imul hx hb dX12_moveSections_13 ?_
    refine lv_iconst (v := (1 : Int32)) hx hb dX12_moveSections_14 (by decide) ?_
    refine lv_isub hx hb dX12_moveSections_15 ?_
    obtain ⟨v8, ev8⟩ : ∃ y, y = (((102 : Int32) * v7) - (1 : Int32)) := ⟨_, rfl⟩
    have h := nm_at ev8 h
    rw [← ev8]
    refine lv_istore_n (lv' := [(3, .int v8), (0, .ref (b + 306)), (1, .int a1), (2, .int a2)]) hx hb dX12_moveSections_16 rfl hl (by decide) rfl (fun ls hl => ?_)
    exact wk_X12_moveSections_17 F hr n _ _ _ _ _ h hW hS (lv_sub hl [1, 2, 3, 0] rfl)
set_option maxHeartbeats 4000000 in
set_option maxRecDepth 100000 in
theorem c_X12_moveSections {l : Launch} {G : Gt} {b : Nat} {n : Nat} {a1 : Int32} {a2 : Int32} {μ : Mm} {out : Mm} (h : sh_X12_moveSections n a1 a2 μ = some out) : Met l yX12_moveSections (wU (Cond.code yX12_moveSections cX12_moveSections 4 none)) ({ frames := 0, cells := 0, slots := 0, locals := 0 } : Room) (PcW (fg G) b μ [.ref (b + 306), .int a1, .int a2]) (QW (fg G) b out none) 0 0 (fb b) :=
  met_of [.ref (b + 306), .int a1, .int a2] (by decide) (Nat.le_of_ble_eq_true rfl) (fun F hr hW hl => wk_X12_moveSections F hr h hW va_S.rf hl)
set_option maxHeartbeats 4000000 in
set_option maxRecDepth 100000 in
theorem k_X12_moveSections {own : String} {nL : Nat} (F : FX (fg G) b own cc nL p s m args meth c) {n : Nat} {a1 : Int32} {a2 : Int32} {μ : Mm} {out : Mm} (h : sh_X12_moveSections n a1 a2 μ = some out) {index : Nat} (hl : Cond.methodLink own index yX12_moveSections ∈ TBG) (hR : 0 + 1 ≤ R.frames ∧ 8 + (4 + 11) + 0 ≤ R.locals ∧ cells ≤ R.cells ∧ slots ≤ R.slots) (hW : WH (fg G) b μ H) (hS : va_S (fb b) s.heap H locs) (hsz : ls.size = nL) (hrest : (rest.map fun v => v.category).sum ≤ 8) (hdg : decode cc pc = .ok (.invokevirtual index, 3))
    (kk : ∀ (H1 : Heap) (locs1 : List Loc), WH (fg G) b out H1 → va_S (fb b) s.heap H1 locs1 → W p l e R s m args below meth c H1 locs1 cells slots Q (F0 m (pc + 3) ls (rest))) : W p l e R s m args below meth c H locs cells slots Q (F0 m pc ls (.int a2 :: .int a1 :: .ref (b + 306) :: rest)) :=
  f_callV (As := [.int a1, .int a2]) (ci := 12) (c_X12_moveSections h) ⟨rfl, rfl⟩ rfl (ky_lm kyf_306 (by decide)) (wF_12 kyf_306) q_2057 qp_108 q_14 q_2058 rfl ⟨by decide +kernel, by decide +kernel, (show (parseMethodDescriptor yX12_moveSections.desc).map (fun d => d.parameters.length) = some 2 by decide +kernel)⟩ F hl hR hW hS hsz hrest rfl hdg kk
set_option maxHeartbeats 4000000 in
set_option maxRecDepth 100000 in
theorem wk_X12_partFor {a1 : Int32} {μ : Mm} {out : Int32} (F : FX (fg G) b RX12 cX12_partFor 2 p s m args meth c) (hr : meth.sig.returnType = some .int) (h : sh_X12_partFor a1 μ = some out) (hW : WH (fg G) b μ H) (hS : va_S (fb b) s.heap H locs) (hl : lv_has ls 2 [(0, .ref (b + 306)), (1, .int a1)]) : W p l e ({ frames := 1, cells := 0, slots := 0, locals := 22 } : Room) s m args below meth c H locs 0 0 (MQ below (QW (fg G) b μ (some (.int out))) args s 0 0 (fb b)) (F0 m 0 ls []) := by
  have hx := F.1
  have hb := F.2.1
  unfold sh_X12_partFor at h
  refine lv_aload_n hx hb dX12_partFor_0 rfl (lv_at hl 0 rfl) ?_
  refine fl_get12 (v := .ref (b + 307)) kyf_306 F hW 1 (by decide) q_1472 rfl rfl dX12_partFor_1 ?_
  refine lv_bipush (v := (9 : Int32)) hx hb dX12_partFor_4 (by decide) ?_
  obtain ⟨v1, qv1, h⟩ := ob h
  refine fm_iald kyf_307 F hW qv1 dX12_partFor_6 ?_
  refine lv_if_ne (tgt := 12) hx hb dX12_partFor_7 (by decide) (fun cc => ?_) (fun cc => ?_)
  · replace h := (if_neg cc).symm.trans h
    refine lv_aload_n hx hb dX12_partFor_12 rfl (lv_at hl 0 rfl) ?_
    refine lv_iload_n hx hb dX12_partFor_13 rfl (lv_at hl 1 rfl) ?_
    refine lv_aload_n hx hb dX12_partFor_14 rfl (lv_at hl 0 rfl) ?_
    refine fl_get12 (v := .ref (b + 307)) kyf_306 F hW 1 (by decide) q_1472 rfl rfl dX12_partFor_15 ?_
    refine lv_bipush (v := (9 : Int32)) hx hb dX12_partFor_18 (by decide) ?_
    obtain ⟨v2, qv2, h⟩ := ob h
    refine fm_iald kyf_307 F hW qv2 dX12_partFor_20 ?_
    refine lv_iconst (v := (1 : Int32)) hx hb dX12_partFor_21 (by decide) ?_
    refine lv_isub hx hb dX12_partFor_22 ?_
    refine fl_min F hl.1 q_1663 q_465 q_3 mm_min (Nat.le_of_ble_eq_true rfl) (Nat.le_of_ble_eq_true rfl) (Nat.zero_le _) (Nat.zero_le _) dX12_partFor_23 ?_
    refine lv_iconst (v := (2 : Int32)) hx hb dX12_partFor_26 (by decide) ?_
    obtain ⟨r3, qr3, h⟩ := ob h
    refine k_X12_of F qr3 q_1735 ⟨Nat.le_of_ble_eq_true rfl, Nat.le_of_ble_eq_true rfl, Nat.le_of_ble_eq_true rfl, Nat.le_of_ble_eq_true rfl⟩ hW hS hl.1 (Nat.le_of_ble_eq_true rfl) dX12_partFor_27 (fun H locs hW hS => ?_)
    cases h
    exact r_int F hr hW hS dX12_partFor_30
  · replace h := (if_pos cc).symm.trans h
    refine lv_iconst (v := (0 : Int32)) hx hb dX12_partFor_10 (by decide) ?_
    cases h
    exact r_int F hr hW hS dX12_partFor_11
set_option maxHeartbeats 4000000 in
set_option maxRecDepth 100000 in
theorem c_X12_partFor {l : Launch} {G : Gt} {b : Nat} {a1 : Int32} {μ : Mm} {out : Int32} (h : sh_X12_partFor a1 μ = some out) : Met l yX12_partFor (wU (Cond.code yX12_partFor cX12_partFor 2 (some .int))) ({ frames := 1, cells := 0, slots := 0, locals := 22 } : Room) (PcW (fg G) b μ [.ref (b + 306), .int a1]) (QW (fg G) b μ (some (.int out))) 0 0 (fb b) :=
  met_of [.ref (b + 306), .int a1] (by decide) (Nat.le_of_ble_eq_true rfl) (fun F hr hW hl => wk_X12_partFor F hr h hW va_S.rf hl)
set_option maxHeartbeats 4000000 in
set_option maxRecDepth 100000 in
theorem k_X12_partFor {own : String} {nL : Nat} (F : FX (fg G) b own cc nL p s m args meth c) {a1 : Int32} {μ : Mm} {out : Int32} (h : sh_X12_partFor a1 μ = some out) {index : Nat} (hl : Cond.methodLink own index yX12_partFor ∈ TBG) (hR : 1 + 1 ≤ R.frames ∧ 8 + (2 + 11) + 22 ≤ R.locals ∧ cells ≤ R.cells ∧ slots ≤ R.slots) (hW : WH (fg G) b μ H) (hS : va_S (fb b) s.heap H locs) (hsz : ls.size = nL) (hrest : (rest.map fun v => v.category).sum ≤ 8) (hdg : decode cc pc = .ok (.invokevirtual index, 3))
    (kk : ∀ (H1 : Heap) (locs1 : List Loc), WH (fg G) b μ H1 → va_S (fb b) s.heap H1 locs1 → W p l e R s m args below meth c H1 locs1 cells slots Q (F0 m (pc + 3) ls (.int out :: rest))) : W p l e R s m args below meth c H locs cells slots Q (F0 m pc ls (.int a1 :: .ref (b + 306) :: rest)) :=
  f_callV (As := [.int a1]) (ci := 12) (c_X12_partFor h) ⟨rfl, rfl⟩ rfl (ky_lm kyf_306 (by decide)) (wF_12 kyf_306) q_2053 qp_107 q_14 q_2054 rfl ⟨by decide +kernel, by decide +kernel, (show (parseMethodDescriptor yX12_partFor.desc).map (fun d => d.parameters.length) = some 1 by decide +kernel)⟩ F hl hR hW hS hsz hrest rfl hdg kk
set_option maxHeartbeats 4000000 in
set_option maxRecDepth 100000 in
theorem wk_X12_canBeAt {a1 : Int32} {a2 : Int32} {μ : Mm} {out : Int32} (F : FX (fg G) b RX12 cX12_canBeAt 4 p s m args meth c) (hr : meth.sig.returnType = some .boolean) (h : sh_X12_canBeAt a1 a2 μ = some out) (hW : WH (fg G) b μ H) (hS : va_S (fb b) s.heap H locs) (hl : lv_has ls 4 [(0, .ref (b + 306)), (1, .int a1), (2, .int a2)]) : W p l e ({ frames := 2, cells := 0, slots := 0, locals := 44 } : Room) s m args below meth c H locs 0 0 (MQ below (QW (fg G) b μ (some (.int out))) args s 0 0 (fb b)) (F0 m 0 ls []) := by
  have hx := F.1
  have hb := F.2.1
  unfold sh_X12_canBeAt at h
  refine lv_aload_n hx hb dX12_canBeAt_0 rfl (lv_at hl 0 rfl) ?_
  refine lv_iload_n hx hb dX12_canBeAt_1 rfl (lv_at hl 1 rfl) ?_
  obtain ⟨r1, qr1, h⟩ := ob h
  refine k_X12_partFor F qr1 q_2051 ⟨Nat.le_of_ble_eq_true rfl, Nat.le_of_ble_eq_true rfl, Nat.le_of_ble_eq_true rfl, Nat.le_of_ble_eq_true rfl⟩ hW hS hl.1 (Nat.le_of_ble_eq_true rfl) dX12_canBeAt_2 (fun H locs hW hS => ?_)
  refine lv_istore_n (lv' := [(3, .int r1), (0, .ref (b + 306)), (1, .int a1), (2, .int a2)]) hx hb dX12_canBeAt_5 rfl hl (by decide) rfl (fun ls hl => ?_)
  refine lv_iload_n hx hb dX12_canBeAt_6 rfl (lv_at hl 3 rfl) ?_
  refine lv_aload_n hx hb dX12_canBeAt_7 rfl (lv_at hl 1 rfl) ?_
  refine lv_iload_n hx hb dX12_canBeAt_8 rfl (lv_at hl 2 rfl) ?_
  refine lv_iconst (v := (1 : Int32)) hx hb dX12_canBeAt_9 (by decide) ?_
  refine lv_isub hx hb dX12_canBeAt_10 ?_
  refine lv_iload_n hx hb dX12_canBeAt_11 rfl (lv_at hl 0 rfl) ?_
  obtain ⟨r2, qr2, h⟩ := ob h
  refine k_X12_levelBehind F qr2 q_1731 ⟨Nat.le_of_ble_eq_true rfl, Nat.le_of_ble_eq_true rfl, Nat.le_of_ble_eq_true rfl, Nat.le_of_ble_eq_true rfl⟩ hW hS hl.1 (Nat.le_of_ble_eq_true rfl) dX12_canBeAt_12 (fun H locs hW hS => ?_)
  refine lv_icmp_le (tgt := 20) hx hb dX12_canBeAt_15 (by decide) (fun cc => ?_) (fun cc => ?_)
  · replace h := (if_pos cc).symm.trans h
    refine lv_iload_n hx hb dX12_canBeAt_20 rfl (lv_at hl 2 rfl) ?_
    refine lv_aload_n hx hb dX12_canBeAt_21 rfl (lv_at hl 1 rfl) ?_
    refine fl_get12 (v := .ref (b + 307)) kyf_306 F hW 1 (by decide) q_1472 rfl rfl dX12_canBeAt_22 ?_
    refine lv_bipush (v := (9 : Int32)) hx hb dX12_canBeAt_25 (by decide) ?_
    obtain ⟨v3, qv3, h⟩ := ob h
    refine fm_iald kyf_307 F hW qv3 dX12_canBeAt_27 ?_
    refine lv_icmp_eq (tgt := 53) hx hb dX12_canBeAt_28 (by decide) (fun cc => ?_) (fun cc => ?_)
    · replace h := (if_pos cc).symm.trans h
      refine lv_iconst (v := (1 : Int32)) hx hb dX12_canBeAt_53 (by decide) ?_
      refine lv_goto (tgt := 58) hx hb dX12_canBeAt_54 (by decide) ?_
      cases h
      exact r_bool F hr (Or.inr rfl) hW hS dX12_canBeAt_58
    · replace h := (if_neg cc).symm.trans h
      refine lv_aload_n hx hb dX12_canBeAt_31 rfl (lv_at hl 1 rfl) ?_
      refine lv_iload_n hx hb dX12_canBeAt_32 rfl (lv_at hl 2 rfl) ?_
      refine lv_iconst (v := (2 : Int32)) hx hb dX12_canBeAt_33 (by decide) ?_
      obtain ⟨r4, qr4, h⟩ := ob h
      refine k_X12_of F qr4 q_1735 ⟨Nat.le_of_ble_eq_true rfl, Nat.le_of_ble_eq_true rfl, Nat.le_of_ble_eq_true rfl, Nat.le_of_ble_eq_true rfl⟩ hW hS hl.1 (Nat.le_of_ble_eq_true rfl) dX12_canBeAt_34 (fun H locs hW hS => ?_)
      refine lv_iload_n hx hb dX12_canBeAt_37 rfl (lv_at hl 0 rfl) ?_
      refine lv_icmp_ne (tgt := 53) hx hb dX12_canBeAt_38 (by decide) (fun cc => ?_) (fun cc => ?_)
      · replace h := (if_neg cc).symm.trans h
        refine lv_iconst (v := (1 : Int32)) hx hb dX12_canBeAt_53 (by decide) ?_
        refine lv_goto (tgt := 58) hx hb dX12_canBeAt_54 (by decide) ?_
        cases h
        exact r_bool F hr (Or.inr rfl) hW hS dX12_canBeAt_58
      · replace h := (if_pos cc).symm.trans h
        refine lv_aload_n hx hb dX12_canBeAt_41 rfl (lv_at hl 1 rfl) ?_
        refine lv_iload_n hx hb dX12_canBeAt_42 rfl (lv_at hl 2 rfl) ?_
        refine lv_iconst (v := (0 : Int32)) hx hb dX12_canBeAt_43 (by decide) ?_
        obtain ⟨r5, qr5, h⟩ := ob h
        refine k_X12_of F qr5 q_1735 ⟨Nat.le_of_ble_eq_true rfl, Nat.le_of_ble_eq_true rfl, Nat.le_of_ble_eq_true rfl, Nat.le_of_ble_eq_true rfl⟩ hW hS hl.1 (Nat.le_of_ble_eq_true rfl) dX12_canBeAt_44 (fun H locs hW hS => ?_)
        refine lv_iload_n hx hb dX12_canBeAt_47 rfl (lv_at hl 3 rfl) ?_
        refine lv_iconst (v := (1 : Int32)) hx hb dX12_canBeAt_48 (by decide) ?_
        refine lv_iadd hx hb dX12_canBeAt_49 ?_
        refine lv_icmp_gt (tgt := 57) hx hb dX12_canBeAt_50 (by decide) (fun cc => ?_) (fun cc => ?_)
        · replace h := (if_pos cc).symm.trans h
          refine lv_iconst (v := (0 : Int32)) hx hb dX12_canBeAt_57 (by decide) ?_
          cases h
          exact r_bool F hr (Or.inl rfl) hW hS dX12_canBeAt_58
        · replace h := (if_neg cc).symm.trans h
          refine lv_iconst (v := (1 : Int32)) hx hb dX12_canBeAt_53 (by decide) ?_
          refine lv_goto (tgt := 58) hx hb dX12_canBeAt_54 (by decide) ?_
          cases h
          exact r_bool F hr (Or.inr rfl) hW hS dX12_canBeAt_58
  · replace h := (if_neg cc).symm.trans h
    refine lv_iconst (v := (0 : Int32)) hx hb dX12_canBeAt_18 (by decide) ?_
    cases h
    exact r_bool F hr (Or.inl rfl) hW hS dX12_canBeAt_19
set_option maxHeartbeats 4000000 in
set_option maxRecDepth 100000 in
theorem c_X12_canBeAt {l : Launch} {G : Gt} {b : Nat} {a1 : Int32} {a2 : Int32} {μ : Mm} {out : Int32} (h : sh_X12_canBeAt a1 a2 μ = some out) : Met l yX12_canBeAt (wU (Cond.code yX12_canBeAt cX12_canBeAt 4 (some .boolean))) ({ frames := 2, cells := 0, slots := 0, locals := 44 } : Room) (PcW (fg G) b μ [.ref (b + 306), .int a1, .int a2]) (QW (fg G) b μ (some (.int out))) 0 0 (fb b) :=
  met_of [.ref (b + 306), .int a1, .int a2] (by decide) (Nat.le_of_ble_eq_true rfl) (fun F hr hW hl => wk_X12_canBeAt F hr h hW va_S.rf hl)
set_option maxHeartbeats 4000000 in
set_option maxRecDepth 100000 in
theorem k_X12_canBeAt {own : String} {nL : Nat} (F : FX (fg G) b own cc nL p s m args meth c) {a1 : Int32} {a2 : Int32} {μ : Mm} {out : Int32} (h : sh_X12_canBeAt a1 a2 μ = some out) {index : Nat} (hl : Cond.methodLink own index yX12_canBeAt ∈ TBG) (hR : 2 + 1 ≤ R.frames ∧ 8 + (4 + 11) + 44 ≤ R.locals ∧ cells ≤ R.cells ∧ slots ≤ R.slots) (hW : WH (fg G) b μ H) (hS : va_S (fb b) s.heap H locs) (hsz : ls.size = nL) (hrest : (rest.map fun v => v.category).sum ≤ 8) (hdg : decode cc pc = .ok (.invokevirtual index, 3))
    (kk : ∀ (H1 : Heap) (locs1 : List Loc), WH (fg G) b μ H1 → va_S (fb b) s.heap H1 locs1 → W p l e R s m args below meth c H1 locs1 cells slots Q (F0 m (pc + 3) ls (.int out :: rest))) : W p l e R s m args below meth c H locs cells slots Q (F0 m pc ls (.int a2 :: .int a1 :: .ref (b + 306) :: rest)) :=
  f_callV (As := [.int a1, .int a2]) (ci := 12) (c_X12_canBeAt h) ⟨rfl, rfl⟩ rfl (ky_lm kyf_306 (by decide)) (wF_12 kyf_306) q_2049 qp_106 q_14 q_2050 rfl ⟨by decide +kernel, by decide +kernel, (show (parseMethodDescriptor yX12_canBeAt.desc).map (fun d => d.parameters.length) = some 2 by decide +kernel)⟩ F hl hR hW hS hsz hrest rfl hdg kk
set_option maxHeartbeats 4000000 in
set_option maxRecDepth 100000 in
theorem wk_X12_insert_98 {n : Nat} {a1 : Int32} {a2 : Int32} {a3 : Int32} {s1 : Int32} {s2 : Int32} {s3 : Int32} {μ : Mm} {out : (Int32 × Mm)} (F : FX (fg G) b RX12 cX12_insert 7 p s m args meth c) (hr : meth.sig.returnType = some .int) (h : sh_X12_insert_98 n a1 a2 a3 s1 s2 s3 μ = some out) (hW : WH (fg G) b μ H) (hS : va_S (fb b) s.heap H locs) (hl : lv_has ls 7 [(0, .ref (b + 306)), (1, .int a1), (2, .int a2), (3, .int a3)]) : W p l e ({ frames := 3, cells := 0, slots := 0, locals := 68 } : Room) s m args below meth c H locs 0 0 (MQ below (QW (fg G) b out.2 (some (.int out.1))) args s 0 0 (fb b)) (F0 m 98 ls [.int s3, .int s2, .int s1, .ref (b + 306)]) := by
  have hx := F.1
  have hb := F.2.1
  unfold sh_X12_insert_98 at h
  obtain ⟨r5, qr5, h⟩ := ob h
  refine k_X12_passes3 F qr5 q_1631 ⟨Nat.le_of_ble_eq_true rfl, Nat.le_of_ble_eq_true rfl, Nat.le_of_ble_eq_true rfl, Nat.le_of_ble_eq_true rfl⟩ hW hS hl.1 (Nat.le_of_ble_eq_true rfl) dX12_insert_98 (fun H locs hW hS => ?_)
  refine lv_if_ne (tgt := 106) hx hb dX12_insert_101 (by decide) (fun cc => ?_) (fun cc => ?_)
  · replace h := (if_neg cc).symm.trans h
    refine lv_aload_n hx hb dX12_insert_106 rfl (lv_at hl 0 rfl) ?_
    obtain ⟨r6, qr6, h⟩ := ob h
    refine k_X12_remember F qr6 q_1747 ⟨Nat.le_of_ble_eq_true rfl, Nat.le_of_ble_eq_true rfl, Nat.le_of_ble_eq_true rfl, Nat.le_of_ble_eq_true rfl⟩ hW hS hl.1 (Nat.le_of_ble_eq_true rfl) dX12_insert_107 (fun H locs hW hS => ?_)
    refine lv_aload_n hx hb dX12_insert_110 rfl (lv_at hl 0 rfl) ?_
    refine lv_iload_n hx hb dX12_insert_111 rfl (lv_at hl 1 rfl) ?_
    obtain ⟨r7, qr7, h⟩ := ob h
    refine k_X12_partFor F qr7 q_2051 ⟨Nat.le_of_ble_eq_true rfl, Nat.le_of_ble_eq_true rfl, Nat.le_of_ble_eq_true rfl, Nat.le_of_ble_eq_true rfl⟩ hW hS hl.1 (Nat.le_of_ble_eq_true rfl) dX12_insert_112 (fun H locs hW hS => ?_)
    refine lv_istore (lv' := [(6, .int r7), (0, .ref (b + 306)), (1, .int a1), (2, .int a2), (3, .int a3)]) hx hb dX12_insert_115 hl (by decide) rfl (fun ls hl => ?_)
    refine lv_aload_n hx hb dX12_insert_117 rfl (lv_at hl 1 rfl) ?_
    refine lv_iload_n hx hb dX12_insert_118 rfl (lv_at hl 2 rfl) ?_
    refine lv_iconst (v := (1 : Int32)) hx hb dX12_insert_119 (by decide) ?_
    obtain ⟨r8, qr8, h⟩ := ob h
    refine k_X12_moveSections F qr8 q_2055 ⟨Nat.le_of_ble_eq_true rfl, Nat.le_of_ble_eq_true rfl, Nat.le_of_ble_eq_true rfl, Nat.le_of_ble_eq_true rfl⟩ hW hS hl.1 (Nat.le_of_ble_eq_true rfl) dX12_insert_120 (fun H locs hW hS => ?_)
    refine lv_aload_n hx hb dX12_insert_123 rfl (lv_at hl 1 rfl) ?_
    refine lv_iload_n hx hb dX12_insert_124 rfl (lv_at hl 2 rfl) ?_
    refine lv_iconst (v := (0 : Int32)) hx hb dX12_insert_125 (by decide) ?_
    refine lv_iload_n hx hb dX12_insert_126 rfl (lv_at hl 3 rfl) ?_
    obtain ⟨r9, qr9, h⟩ := ob h
    refine k_X12_set F qr9 q_1727 ⟨Nat.le_of_ble_eq_true rfl, Nat.le_of_ble_eq_true rfl, Nat.le_of_ble_eq_true rfl, Nat.le_of_ble_eq_true rfl⟩ hW hS hl.1 (Nat.le_of_ble_eq_true rfl) dX12_insert_127 (fun H locs hW hS => ?_)
    refine lv_aload_n hx hb dX12_insert_130 rfl (lv_at hl 1 rfl) ?_
    refine lv_iload_n hx hb dX12_insert_131 rfl (lv_at hl 2 rfl) ?_
    refine lv_iconst (v := (1 : Int32)) hx hb dX12_insert_132 (by decide) ?_
    refine lv_iload_n hx hb dX12_insert_133 rfl (lv_at hl 4 rfl) ?_
    obtain ⟨r10, qr10, h⟩ := ob h
    refine k_X12_set F qr10 q_1727 ⟨Nat.le_of_ble_eq_true rfl, Nat.le_of_ble_eq_true rfl, Nat.le_of_ble_eq_true rfl, Nat.le_of_ble_eq_true rfl⟩ hW hS hl.1 (Nat.le_of_ble_eq_true rfl) dX12_insert_134 (fun H locs hW hS => ?_)
    refine lv_aload_n hx hb dX12_insert_137 rfl (lv_at hl 1 rfl) ?_
    refine lv_iload_n hx hb dX12_insert_138 rfl (lv_at hl 2 rfl) ?_
    refine lv_iconst (v := (2 : Int32)) hx hb dX12_insert_139 (by decide) ?_
    refine lv_iload hx hb dX12_insert_140 (lv_at hl 0 rfl) ?_
    obtain ⟨r11, qr11, h⟩ := ob h
    refine k_X12_set F qr11 q_1727 ⟨Nat.le_of_ble_eq_true rfl, Nat.le_of_ble_eq_true rfl, Nat.le_of_ble_eq_true rfl, Nat.le_of_ble_eq_true rfl⟩ hW hS hl.1 (Nat.le_of_ble_eq_true rfl) dX12_insert_142 (fun H locs hW hS => ?_)
    refine lv_aload_n hx hb dX12_insert_145 rfl (lv_at hl 1 rfl) ?_
    refine lv_iload_n hx hb dX12_insert_146 rfl (lv_at hl 2 rfl) ?_
    refine lv_iconst (v := (4 : Int32)) hx hb dX12_insert_147 (by decide) ?_
    refine lv_iconst (v := (-1 : Int32)) hx hb dX12_insert_148 (by decide) ?_
    obtain ⟨r12, qr12, h⟩ := ob h
    refine k_X12_set F qr12 q_1727 ⟨Nat.le_of_ble_eq_true rfl, Nat.le_of_ble_eq_true rfl, Nat.le_of_ble_eq_true rfl, Nat.le_of_ble_eq_true rfl⟩ hW hS hl.1 (Nat.le_of_ble_eq_true rfl) dX12_insert_149 (fun H locs hW hS => ?_)
    refine lv_aload_n hx hb dX12_insert_152 rfl (lv_at hl 1 rfl) ?_
    refine lv_iload_n hx hb dX12_insert_153 rfl (lv_at hl 2 rfl) ?_
    refine lv_iconst (v := (5 : Int32)) hx hb dX12_insert_154 (by decide) ?_
    refine lv_iconst (v := (0 : Int32)) hx hb dX12_insert_155 (by decide) ?_
    obtain ⟨r13, qr13, h⟩ := ob h
    refine k_X12_set F qr13 q_1727 ⟨Nat.le_of_ble_eq_true rfl, Nat.le_of_ble_eq_true rfl, Nat.le_of_ble_eq_true rfl, Nat.le_of_ble_eq_true rfl⟩ hW hS hl.1 (Nat.le_of_ble_eq_true rfl) dX12_insert_156 (fun H locs hW hS => ?_)
    refine lv_aload_n hx hb dX12_insert_159 rfl (lv_at hl 1 rfl) ?_
    refine lv_iload_n hx hb dX12_insert_160 rfl (lv_at hl 2 rfl) ?_
    obtain ⟨r14, qr14, h⟩ := ob h
    refine k_X12_takeTitle F qr14 q_2039 ⟨Nat.le_of_ble_eq_true rfl, Nat.le_of_ble_eq_true rfl, Nat.le_of_ble_eq_true rfl, Nat.le_of_ble_eq_true rfl⟩ hW hS hl.1 (Nat.le_of_ble_eq_true rfl) dX12_insert_161 (fun H locs hW hS => ?_)
    refine lv_aload_n hx hb dX12_insert_164 rfl (lv_at hl 1 rfl) ?_
    refine fl_get12 (v := .ref (b + 307)) kyf_306 F hW 1 (by decide) q_1472 rfl rfl dX12_insert_165 ?_
    refine lv_bipush (v := (9 : Int32)) hx hb dX12_insert_168 (by decide) ?_
    obtain ⟨v15, qv15, h⟩ := ob h
    refine fm_iald kyf_307 F hW qv15 dX12_insert_170 ?_
    cases h
    exact r_int F hr hW hS dX12_insert_171
  · replace h := (if_pos cc).symm.trans h
    refine lv_iconst (v := (0 : Int32)) hx hb dX12_insert_104 (by decide) ?_
    cases h
    exact r_int F hr hW hS dX12_insert_105
set_option maxHeartbeats 4000000 in
set_option maxRecDepth 100000 in
theorem wk_X12_insert_81 {n : Nat} {a1 : Int32} {a2 : Int32} {a3 : Int32} {s1 : Int32} {s2 : Int32} {μ : Mm} {out : (Int32 × Mm)} (F : FX (fg G) b RX12 cX12_insert 7 p s m args meth c) (hr : meth.sig.returnType = some .int) (h : sh_X12_insert_81 n a1 a2 a3 s1 s2 μ = some out) (hW : WH (fg G) b μ H) (hS : va_S (fb b) s.heap H locs) (hl : lv_has ls 7 [(0, .ref (b + 306)), (1, .int a1), (2, .int a2), (3, .int a3)]) : W p l e ({ frames := 3, cells := 0, slots := 0, locals := 68 } : Room) s m args below meth c H locs 0 0 (MQ below (QW (fg G) b out.2 (some (.int out.1))) args s 0 0 (fb b)) (F0 m 81 ls [.int s2, .int s1, .ref (b + 306)]) := by
  have hx := F.1
  have hb := F.2.1
  unfold sh_X12_insert_81 at h
  refine lv_aload_n hx hb dX12_insert_81 rfl (lv_at hl 0 rfl) ?_
  refine fl_get12 (v := .ref (b + 307)) kyf_306 F hW 1 (by decide) q_1472 rfl rfl dX12_insert_82 ?_
  refine lv_bipush (v := (9 : Int32)) hx hb dX12_insert_85 (by decide) ?_
  obtain ⟨v4, qv4, h⟩ := ob h
  refine fm_iald kyf_307 F hW qv4 dX12_insert_87 ?_
  refine lv_bipush (v := (24 : Int32)) hx hb dX12_insert_88 (by decide) ?_
  refine lv_icmp_ge (tgt := 97) hx hb dX12_insert_90 (by decide) (fun cc => ?_) (fun cc => ?_)
  · replace h := (if_pos cc).symm.trans h
    refine lv_iconst (v := (0 : Int32)) hx hb dX12_insert_97 (by decide) ?_
    exact wk_X12_insert_98 F hr h hW hS (lv_sub hl [0, 1, 2, 3] rfl)
  · replace h := (if_neg cc).symm.trans h
    refine lv_iconst (v := (1 : Int32)) hx hb dX12_insert_93 (by decide) ?_
    refine lv_goto (tgt := 98) hx hb dX12_insert_94 (by decide) ?_
    exact wk_X12_insert_98 F hr h hW hS (lv_sub hl [0, 1, 2, 3] rfl)
set_option maxHeartbeats 4000000 in
set_option maxRecDepth 100000 in
theorem wk_X12_insert_80 {n : Nat} {a1 : Int32} {a2 : Int32} {a3 : Int32} {s1 : Int32} {μ : Mm} {out : (Int32 × Mm)} (F : FX (fg G) b RX12 cX12_insert 7 p s m args meth c) (hr : meth.sig.returnType = some .int) (h : sh_X12_insert_80 n a1 a2 a3 s1 μ = some out) (hW : WH (fg G) b μ H) (hS : va_S (fb b) s.heap H locs) (hl : lv_has ls 7 [(0, .ref (b + 306)), (1, .int a1), (2, .int a2), (3, .int a3)]) : W p l e ({ frames := 3, cells := 0, slots := 0, locals := 68 } : Room) s m args below meth c H locs 0 0 (MQ below (QW (fg G) b out.2 (some (.int out.1))) args s 0 0 (fb b)) (F0 m 80 ls [.int s1, .ref (b + 306)]) := by
  have hx := F.1
  have hb := F.2.1
  unfold sh_X12_insert_80 at h
  refine lv_iconst (v := (0 : Int32)) hx hb dX12_insert_80 (by decide) ?_
  exact wk_X12_insert_81 F hr h hW hS (lv_sub hl [0, 1, 2, 3] rfl)
set_option maxHeartbeats 4000000 in
set_option maxRecDepth 100000 in
theorem wk_X12_insert_76 {n : Nat} {a1 : Int32} {a2 : Int32} {a3 : Int32} {s1 : Int32} {μ : Mm} {out : (Int32 × Mm)} (F : FX (fg G) b RX12 cX12_insert 7 p s m args meth c) (hr : meth.sig.returnType = some .int) (h : sh_X12_insert_76 n a1 a2 a3 s1 μ = some out) (hW : WH (fg G) b μ H) (hS : va_S (fb b) s.heap H locs) (hl : lv_has ls 7 [(0, .ref (b + 306)), (1, .int a1), (2, .int a2), (3, .int a3)]) : W p l e ({ frames := 3, cells := 0, slots := 0, locals := 68 } : Room) s m args below meth c H locs 0 0 (MQ below (QW (fg G) b out.2 (some (.int out.1))) args s 0 0 (fb b)) (F0 m 76 ls [.int s1, .ref (b + 306)]) := by
  have hx := F.1
  have hb := F.2.1
  unfold sh_X12_insert_76 at h
  refine lv_iconst (v := (1 : Int32)) hx hb dX12_insert_76 (by decide) ?_
  refine lv_goto (tgt := 81) hx hb dX12_insert_77 (by decide) ?_
  exact wk_X12_insert_81 F hr h hW hS (lv_sub hl [0, 1, 2, 3] rfl)
set_option maxHeartbeats 4000000 in
set_option maxRecDepth 100000 in
theorem wk_X12_insert_52 {n : Nat} {a1 : Int32} {a2 : Int32} {a3 : Int32} {x4 : Int32} {s0 : Int32} {μ : Mm} {out : (Int32 × Mm)} (F : FX (fg G) b RX12 cX12_insert 7 p s m args meth c) (hr : meth.sig.returnType = some .int) (h : sh_X12_insert_52 n a1 a2 a3 x4 s0 μ = some out) (hW : WH (fg G) b μ H) (hS : va_S (fb b) s.heap H locs) (hl : lv_has ls 7 [(0, .ref (b + 306)), (1, .int a1), (2, .int a2), (3, .int a3), (4, .int x4)]) : W p l e ({ frames := 3, cells := 0, slots := 0, locals := 68 } : Room) s m args below meth c H locs 0 0 (MQ below (QW (fg G) b out.2 (some (.int out.1))) args s 0 0 (fb b)) (F0 m 52 ls [.int s0]) := by
  have hx := F.1
  have hb := F.2.1
  unfold sh_X12_insert_52 at h
  refine lv_istore (lv' := [(5, .int s0), (0, .ref (b + 306)), (1, .int a1), (2, .int a2), (3, .int a3), (4, .int x4)]) hx hb dX12_insert_52 hl (by decide) rfl (fun ls hl => ?_)
  refine lv_aload_n hx hb dX12_insert_54 rfl (lv_at hl 1 rfl) ?_
  refine lv_iload hx hb dX12_insert_55 (lv_at hl 5 rfl) ?_
  refine lv_iload hx hb dX12_insert_57 (lv_at hl 0 rfl) ?_
  refine lv_if_eq (tgt := 80) hx hb dX12_insert_59 (by decide) (fun cc => ?_) (fun cc => ?_)
  · replace h := (if_pos cc).symm.trans h
    exact wk_X12_insert_80 F hr h hW hS (lv_sub hl [1, 2, 3, 4] rfl)
  · replace h := (if_neg cc).symm.trans h
    refine lv_iload hx hb dX12_insert_62 (lv_at hl 5 rfl) ?_
    refine lv_if_eq (tgt := 76) hx hb dX12_insert_64 (by decide) (fun cc => ?_) (fun cc => ?_)
    · replace h := (if_pos cc).symm.trans h
      exact wk_X12_insert_76 F hr h hW hS (lv_sub hl [1, 2, 3, 4] rfl)
    · replace h := (if_neg cc).symm.trans h
      refine lv_aload_n hx hb dX12_insert_67 rfl (lv_at hl 1 rfl) ?_
      refine lv_iload_n hx hb dX12_insert_68 rfl (lv_at hl 2 rfl) ?_
      refine lv_iload_n hx hb dX12_insert_69 rfl (lv_at hl 3 rfl) ?_
      obtain ⟨r16, qr16, h⟩ := ob h
      refine k_X12_canBeAt F qr16 q_2047 ⟨Nat.le_of_ble_eq_true rfl, Nat.le_of_ble_eq_true rfl, Nat.le_of_ble_eq_true rfl, Nat.le_of_ble_eq_true rfl⟩ hW hS hl.1 (Nat.le_of_ble_eq_true rfl) dX12_insert_70 (fun H locs hW hS => ?_)
      refine lv_if_eq (tgt := 80) hx hb dX12_insert_73 (by decide) (fun cc => ?_) (fun cc => ?_)
      · replace h := (if_pos cc).symm.trans h
        exact wk_X12_insert_80 F hr h hW hS (lv_sub hl [1, 2, 3, 4] rfl)
      · replace h := (if_neg cc).symm.trans h
        exact wk_X12_insert_76 F hr h hW hS (lv_sub hl [1, 2, 3, 4] rfl)
set_option maxHeartbeats 4000000 in
set_option maxRecDepth 100000 in
theorem wk_X12_insert_51 {n : Nat} {a1 : Int32} {a2 : Int32} {a3 : Int32} {x4 : Int32} {μ : Mm} {out : (Int32 × Mm)} (F : FX (fg G) b RX12 cX12_insert 7 p s m args meth c) (hr : meth.sig.returnType = some .int) (h : sh_X12_insert_51 n a1 a2 a3 x4 μ = some out) (hW : WH (fg G) b μ H) (hS : va_S (fb b) s.heap H locs) (hl : lv_has ls 7 [(0, .ref (b + 306)), (1, .int a1), (2, .int a2), (3, .int a3), (4, .int x4)]) : W p l e ({ frames := 3, cells := 0, slots := 0, locals := 68 } : Room) s m args below meth c H locs 0 0 (MQ below (QW (fg G) b out.2 (some (.int out.1))) args s 0 0 (fb b)) (F0 m 51 ls []) := by
  have hx := F.1
  have hb := F.2.1
  unfold sh_X12_insert_51 at h
  refine lv_iconst (v := (0 : Int32)) hx hb dX12_insert_51 (by decide) ?_
  exact wk_X12_insert_52 F hr h hW hS (lv_sub hl [0, 1, 2, 3, 4] rfl)
set_option maxHeartbeats 4000000 in
set_option maxRecDepth 100000 in
theorem wk_X12_insert {n : Nat} {a1 : Int32} {a2 : Int32} {a3 : Int32} {μ : Mm} {out : (Int32 × Mm)} (F : FX (fg G) b RX12 cX12_insert 7 p s m args meth c) (hr : meth.sig.returnType = some .int) (h : sh_X12_insert n a1 a2 a3 μ = some out) (hW : WH (fg G) b μ H) (hS : va_S (fb b) s.heap H locs) (hl : lv_has ls 7 [(0, .ref (b + 306)), (1, .int a1), (2, .int a2), (3, .int a3)]) : W p l e ({ frames := 3, cells := 0, slots := 0, locals := 68 } : Room) s m args below meth c H locs 0 0 (MQ below (QW (fg G) b out.2 (some (.int out.1))) args s 0 0 (fb b)) (F0 m 0 ls []) := by
  have hx := F.1
  have hb := F.2.1
  unfold sh_X12_insert at h
  refine lv_iload_n hx hb dX12_insert_0 rfl (lv_at hl 1 rfl) ?_
  refine lv_i2l hx hb dX12_insert_1 rfl ?_
  refine lv_lconst (v := (0 : Int64)) hx hb dX12_insert_2 (by decide) ?_
  refine lv_aload_n hx hb dX12_insert_3 rfl (lv_at hl 0 rfl) ?_
  refine fl_get12 (v := .ref (b + 307)) kyf_306 F hW 1 (by decide) q_1472 rfl rfl dX12_insert_4 ?_
  refine lv_bipush (v := (9 : Int32)) hx hb dX12_insert_7 (by decide) ?_
  obtain ⟨v1, qv1, h⟩ := ob h
  refine fm_iald kyf_307 F hW qv1 dX12_insert_9 ?_
  refine lv_i2l hx hb dX12_insert_10 rfl ?_
  obtain ⟨r2, qr2, h⟩ := ob h
  refine k_X12_in F qr2 q_1643 ⟨Nat.le_of_ble_eq_true rfl, Nat.le_of_ble_eq_true rfl, Nat.le_of_ble_eq_true rfl, Nat.le_of_ble_eq_true rfl⟩ hW hS hl.1 (Nat.le_of_ble_eq_true rfl) dX12_insert_11 (fun H locs hW hS => ?_)
  refine lv_istore (lv' := [(4, .int r2), (0, .ref (b + 306)), (1, .int a1), (2, .int a2), (3, .int a3)]) hx hb dX12_insert_14 hl (by decide) rfl (fun ls hl => ?_)
  refine lv_iload_n hx hb dX12_insert_16 rfl (lv_at hl 3 rfl) ?_
  refine lv_i2l hx hb dX12_insert_17 rfl ?_
  refine lv_lconst (v := (1 : Int64)) hx hb dX12_insert_18 (by decide) ?_
  refine lv_ldc2 hx hb F.2.2.2.1 (F.2.2.2.2.1 _ q_1941) dX12_insert_19 ?_
  obtain ⟨r3, qr3, h⟩ := ob h
  refine k_X12_in F qr3 q_1643 ⟨Nat.le_of_ble_eq_true rfl, Nat.le_of_ble_eq_true rfl, Nat.le_of_ble_eq_true rfl, Nat.le_of_ble_eq_true rfl⟩ hW hS hl.1 (Nat.le_of_ble_eq_true rfl) dX12_insert_22 (fun H locs hW hS => ?_)
  refine lv_if_eq (tgt := 51) hx hb dX12_insert_25 (by decide) (fun cc => ?_) (fun cc => ?_)
  · replace h := (if_pos cc).symm.trans h
    exact wk_X12_insert_51 F hr h hW hS (lv_sub hl [1, 2, 3, 4, 0] rfl)
  · replace h := (if_neg cc).symm.trans h
    refine lv_iload_n hx hb dX12_insert_28 rfl (lv_at hl 4 rfl) ?_
    refine lv_i2l hx hb dX12_insert_29 rfl ?_
    refine lv_lconst (v := (0 : Int64)) hx hb dX12_insert_30 (by decide) ?_
    refine lv_ldc2 hx hb F.2.2.2.1 (F.2.2.2.2.1 _ q_2022) dX12_insert_31 ?_
    obtain ⟨r17, qr17, h⟩ := ob h
    refine k_X12_in F qr17 q_1643 ⟨Nat.le_of_ble_eq_true rfl, Nat.le_of_ble_eq_true rfl, Nat.le_of_ble_eq_true rfl, Nat.le_of_ble_eq_true rfl⟩ hW hS hl.1 (Nat.le_of_ble_eq_true rfl) dX12_insert_34 (fun H locs hW hS => ?_)
    refine lv_if_eq (tgt := 51) hx hb dX12_insert_37 (by decide) (fun cc => ?_) (fun cc => ?_)
    · replace h := (if_pos cc).symm.trans h
      exact wk_X12_insert_51 F hr h hW hS (lv_sub hl [1, 2, 3, 4, 0] rfl)
    · replace h := (if_neg cc).symm.trans h
      refine lv_aload_n hx hb dX12_insert_40 rfl (lv_at hl 1 rfl) ?_
      obtain ⟨r18, qr18, h⟩ := ob h
      refine k_X12_isTitle F qr18 q_2035 ⟨Nat.le_of_ble_eq_true rfl, Nat.le_of_ble_eq_true rfl, Nat.le_of_ble_eq_true rfl, Nat.le_of_ble_eq_true rfl⟩ hW hS hl.1 (Nat.le_of_ble_eq_true rfl) dX12_insert_41 (fun H locs hW hS => ?_)
      refine lv_if_eq (tgt := 51) hx hb dX12_insert_44 (by decide) (fun cc => ?_) (fun cc => ?_)
      · replace h := (if_pos cc).symm.trans h
        exact wk_X12_insert_51 F hr h hW hS (lv_sub hl [1, 2, 3, 4, 0] rfl)
      · replace h := (if_neg cc).symm.trans h
        refine lv_iconst (v := (1 : Int32)) hx hb dX12_insert_47 (by decide) ?_
        refine lv_goto (tgt := 52) hx hb dX12_insert_48 (by decide) ?_
        exact wk_X12_insert_52 F hr h hW hS (lv_sub hl [1, 2, 3, 4, 0] rfl)
set_option maxHeartbeats 4000000 in
set_option maxRecDepth 100000 in
theorem c_X12_insert {l : Launch} {G : Gt} {b : Nat} {n : Nat} {a1 : Int32} {a2 : Int32} {a3 : Int32} {μ : Mm} {out : (Int32 × Mm)} (h : sh_X12_insert n a1 a2 a3 μ = some out) : Met l yX12_insert (wU (Cond.code yX12_insert cX12_insert 7 (some .int))) ({ frames := 3, cells := 0, slots := 0, locals := 68 } : Room) (PcW (fg G) b μ [.ref (b + 306), .int a1, .int a2, .int a3]) (QW (fg G) b out.2 (some (.int out.1))) 0 0 (fb b) :=
  met_of [.ref (b + 306), .int a1, .int a2, .int a3] (by decide) (Nat.le_of_ble_eq_true rfl) (fun F hr hW hl => wk_X12_insert F hr h hW va_S.rf hl)
set_option maxHeartbeats 4000000 in
set_option maxRecDepth 100000 in
theorem k_X12_insert {own : String} {nL : Nat} (F : FX (fg G) b own cc nL p s m args meth c) {n : Nat} {a1 : Int32} {a2 : Int32} {a3 : Int32} {μ : Mm} {out : (Int32 × Mm)} (h : sh_X12_insert n a1 a2 a3 μ = some out) {index : Nat} (hl : Cond.methodLink own index yX12_insert ∈ TBG) (hR : 3 + 1 ≤ R.frames ∧ 8 + (7 + 11) + 68 ≤ R.locals ∧ cells ≤ R.cells ∧ slots ≤ R.slots) (hW : WH (fg G) b μ H) (hS : va_S (fb b) s.heap H locs) (hsz : ls.size = nL) (hrest : (rest.map fun v => v.category).sum ≤ 8) (hdg : decode cc pc = .ok (.invokevirtual index, 3))
    (kk : ∀ (H1 : Heap) (locs1 : List Loc), WH (fg G) b out.2 H1 → va_S (fb b) s.heap H1 locs1 → W p l e R s m args below meth c H1 locs1 cells slots Q (F0 m (pc + 3) ls (.int out.1 :: rest))) : W p l e R s m args below meth c H locs cells slots Q (F0 m pc ls (.int a3 :: .int a2 :: .int a1 :: .ref (b + 306) :: rest)) :=
  f_callV (As := [.int a1, .int a2, .int a3]) (ci := 12) (c_X12_insert h) ⟨rfl, rfl⟩ rfl (ky_lm kyf_306 (by decide)) (wF_12 kyf_306) q_2044 q_2045 q_14 q_2046 rfl ⟨by decide +kernel, by decide +kernel, (show (parseMethodDescriptor yX12_insert.desc).map (fun d => d.parameters.length) = some 3 by decide +kernel)⟩ F hl hR hW hS hsz hrest rfl hdg kk
set_option maxHeartbeats 4000000 in
set_option maxRecDepth 100000 in
theorem wk_X12_remove_69 {n : Nat} {a1 : Int32} {x2 : Int32} {μ : Mm} {out : (Int32 × Mm)} (F : FX (fg G) b RX12 cX12_remove 3 p s m args meth c) (hr : meth.sig.returnType = some .int) (h : sh_X12_remove_69 n a1 x2 μ = some out) (hW : WH (fg G) b μ H) (hS : va_S (fb b) s.heap H locs) (hl : lv_has ls 3 [(0, .ref (b + 306)), (1, .int a1), (2, .int x2)]) : W p l e ({ frames := 2, cells := 0, slots := 0, locals := 46 } : Room) s m args below meth c H locs 0 0 (MQ below (QW (fg G) b out.2 (some (.int out.1))) args s 0 0 (fb b)) (F0 m 69 ls []) := by
  have hx := F.1
  have hb := F.2.1
  unfold sh_X12_remove_69 at h
  refine lv_aload_n hx hb dX12_remove_69 rfl (lv_at hl 0 rfl) ?_
  refine lv_iload_n hx hb dX12_remove_70 rfl (lv_at hl 2 rfl) ?_
  refine lv_iload_n hx hb dX12_remove_71 rfl (lv_at hl 1 rfl) ?_
  refine lv_iload_n hx hb dX12_remove_72 rfl (lv_at hl 2 rfl) ?_
  refine lv_isub hx hb dX12_remove_73 ?_
  obtain ⟨r6, qr6, h⟩ := ob h
  refine k_X12_moveSections F qr6 q_2055 ⟨Nat.le_of_ble_eq_true rfl, Nat.le_of_ble_eq_true rfl, Nat.le_of_ble_eq_true rfl, Nat.le_of_ble_eq_true rfl⟩ hW hS hl.1 (Nat.le_of_ble_eq_true rfl) dX12_remove_74 (fun H locs hW hS => ?_)
  refine lv_iload_n hx hb dX12_remove_77 rfl (lv_at hl 2 rfl) ?_
  refine lv_iload_n hx hb dX12_remove_78 rfl (lv_at hl 1 rfl) ?_
  refine lv_isub hx hb dX12_remove_79 ?_
  cases h
  exact r_int F hr hW hS dX12_remove_80
set_option maxHeartbeats 4000000 in
set_option maxRecDepth 100000 in
theorem wk_X12_remove_22 {n : Nat} {a1 : Int32} {out : (Int32 × Mm)} (F : FX (fg G) b RX12 cX12_remove 3 p s m args meth c) (hr : meth.sig.returnType = some .int) : ∀ (f : Nat) (x2 : Int32) (μ : Mm) (H : Heap) (locs : List Loc) (ls : Array Slot), sh_X12_remove_22 n a1 f x2 μ = some out → WH (fg G) b μ H → va_S (fb b) s.heap H locs → lv_has ls 3 [(0, .ref (b + 306)), (1, .int a1), (2, .int x2)] → W p l e ({ frames := 2, cells := 0, slots := 0, locals := 46 } : Room) s m args below meth c H locs 0 0 (MQ below (QW (fg G) b out.2 (some (.int out.1))) args s 0 0 (fb b)) (F0 m 22 ls []) := by
  have hx := F.1
  have hb := F.2.1
  intro f
  induction f with
  | zero =>
    intro _ _ _ _ _ h
    rw [sh_X12_remove_22] at h
    cases h
  | succ f ih =>
    intro x2 μ H locs ls h hW hS hl
    rw [sh_X12_remove_22] at h
    have hk22 := ih
    refine lv_iload_n hx hb dX12_remove_22 rfl (lv_at hl 2 rfl) ?_
    refine lv_aload_n hx hb dX12_remove_23 rfl (lv_at hl 0 rfl) ?_
    refine fl_get12 (v := .ref (b + 307)) kyf_306 F hW 1 (by decide) q_1472 rfl rfl dX12_remove_24 ?_
    refine lv_bipush (v := (9 : Int32)) hx hb dX12_remove_27 (by decide) ?_
    obtain ⟨v5, qv5, h⟩ := ob h
    refine fm_iald kyf_307 F hW qv5 dX12_remove_29 ?_
    refine lv_icmp_ge (tgt := 69) hx hb dX12_remove_30 (by decide) (fun cc => ?_) (fun cc => ?_)
    · replace h := (if_pos cc).symm.trans h
      exact wk_X12_remove_69 F hr h hW hS (lv_sub hl [0, 1, 2] rfl)
    · replace h := (if_neg cc).symm.trans h
      refine lv_aload_n hx hb dX12_remove_33 rfl (lv_at hl 0 rfl) ?_
      refine lv_iload_n hx hb dX12_remove_34 rfl (lv_at hl 2 rfl) ?_
      refine lv_iconst (v := (2 : Int32)) hx hb dX12_remove_35 (by decide) ?_
      obtain ⟨r7, qr7, h⟩ := ob h
      refine k_X12_of F qr7 q_1735 ⟨Nat.le_of_ble_eq_true rfl, Nat.le_of_ble_eq_true rfl, Nat.le_of_ble_eq_true rfl, Nat.le_of_ble_eq_true rfl⟩ hW hS hl.1 (Nat.le_of_ble_eq_true rfl) dX12_remove_36 (fun H locs hW hS => ?_)
      refine lv_aload_n hx hb dX12_remove_39 rfl (lv_at hl 0 rfl) ?_
      refine lv_iload_n hx hb dX12_remove_40 rfl (lv_at hl 1 rfl) ?_
      refine lv_iconst (v := (2 : Int32)) hx hb dX12_remove_41 (by decide) ?_
      obtain ⟨r8, qr8, h⟩ := ob h
      refine k_X12_of F qr8 q_1735 ⟨Nat.le_of_ble_eq_true rfl, Nat.le_of_ble_eq_true rfl, Nat.le_of_ble_eq_true rfl, Nat.le_of_ble_eq_true rfl⟩ hW hS hl.1 (Nat.le_of_ble_eq_true rfl) dX12_remove_42 (fun H locs hW hS => ?_)
      refine lv_icmp_ne (tgt := 69) hx hb dX12_remove_45 (by decide) (fun cc => ?_) (fun cc => ?_)
      · replace h := (if_neg cc).symm.trans h
        exact wk_X12_remove_69 F hr h hW hS (lv_sub hl [0, 1, 2] rfl)
      · replace h := (if_pos cc).symm.trans h
        refine lv_aload_n hx hb dX12_remove_48 rfl (lv_at hl 0 rfl) ?_
        refine lv_iload_n hx hb dX12_remove_49 rfl (lv_at hl 2 rfl) ?_
        refine lv_iconst (v := (0 : Int32)) hx hb dX12_remove_50 (by decide) ?_
        obtain ⟨r9, qr9, h⟩ := ob h
        refine k_X12_of F qr9 q_1735 ⟨Nat.le_of_ble_eq_true rfl, Nat.le_of_ble_eq_true rfl, Nat.le_of_ble_eq_true rfl, Nat.le_of_ble_eq_true rfl⟩ hW hS hl.1 (Nat.le_of_ble_eq_true rfl) dX12_remove_51 (fun H locs hW hS => ?_)
        refine lv_aload_n hx hb dX12_remove_54 rfl (lv_at hl 0 rfl) ?_
        refine lv_iload_n hx hb dX12_remove_55 rfl (lv_at hl 1 rfl) ?_
        refine lv_iconst (v := (0 : Int32)) hx hb dX12_remove_56 (by decide) ?_
        obtain ⟨r10, qr10, h⟩ := ob h
        refine k_X12_of F qr10 q_1735 ⟨Nat.le_of_ble_eq_true rfl, Nat.le_of_ble_eq_true rfl, Nat.le_of_ble_eq_true rfl, Nat.le_of_ble_eq_true rfl⟩ hW hS hl.1 (Nat.le_of_ble_eq_true rfl) dX12_remove_57 (fun H locs hW hS => ?_)
        refine lv_icmp_le (tgt := 69) hx hb dX12_remove_60 (by decide) (fun cc => ?_) (fun cc => ?_)
        · replace h := (if_pos cc).symm.trans h
          exact wk_X12_remove_69 F hr h hW hS (lv_sub hl [0, 1, 2] rfl)
        · replace h := (if_neg cc).symm.trans h
          refine lv_iinc (v := (x2 + (1 : Int32))) (lv' := [(2, .int (x2 + (1 : Int32))), (0, .ref (b + 306)), (1, .int a1)]) hx hb dX12_remove_63 hl (k := 2) rfl rfl (by decide) rfl (fun ls hl => ?_)
          refine lv_goto (tgt := 22) hx hb dX12_remove_66 (by decide) ?_
          exact hk22 _ _ _ _ _ h hW hS (lv_sub hl [1, 2, 0] rfl)
set_option maxHeartbeats 4000000 in
set_option maxRecDepth 100000 in
theorem wk_X12_remove {n : Nat} {a1 : Int32} {μ : Mm} {out : (Int32 × Mm)} (F : FX (fg G) b RX12 cX12_remove 3 p s m args meth c) (hr : meth.sig.returnType = some .int) (h : sh_X12_remove n a1 μ = some out) (hW : WH (fg G) b μ H) (hS : va_S (fb b) s.heap H locs) (hl : lv_has ls 3 [(0, .ref (b + 306)), (1, .int a1)]) : W p l e ({ frames := 2, cells := 0, slots := 0, locals := 46 } : Room) s m args below meth c H locs 0 0 (MQ below (QW (fg G) b out.2 (some (.int out.1))) args s 0 0 (fb b)) (F0 m 0 ls []) := by
  have hx := F.1
  have hb := F.2.1
  unfold sh_X12_remove at h
  refine lv_aload_n hx hb dX12_remove_0 rfl (lv_at hl 0 rfl) ?_
  refine lv_aload_n hx hb dX12_remove_1 rfl (lv_at hl 0 rfl) ?_
  refine lv_iload_n hx hb dX12_remove_2 rfl (lv_at hl 1 rfl) ?_
  obtain ⟨r1, qr1, h⟩ := ob h
  refine k_X12_isSection F qr1 q_1868 ⟨Nat.le_of_ble_eq_true rfl, Nat.le_of_ble_eq_true rfl, Nat.le_of_ble_eq_true rfl, Nat.le_of_ble_eq_true rfl⟩ hW hS hl.1 (Nat.le_of_ble_eq_true rfl) dX12_remove_3 (fun H locs hW hS => ?_)
  obtain ⟨r2, qr2, h⟩ := ob h
  refine k_X12_passes F qr2 q_1627 ⟨Nat.le_of_ble_eq_true rfl, Nat.le_of_ble_eq_true rfl, Nat.le_of_ble_eq_true rfl, Nat.le_of_ble_eq_true rfl⟩ hW hS hl.1 (Nat.le_of_ble_eq_true rfl) dX12_remove_6 (fun H locs hW hS => ?_)
  refine lv_if_ne (tgt := 14) hx hb dX12_remove_9 (by decide) (fun cc => ?_) (fun cc => ?_)
  · replace h := (if_neg cc).symm.trans h
    refine lv_aload_n hx hb dX12_remove_14 rfl (lv_at hl 0 rfl) ?_
    obtain ⟨r3, qr3, h⟩ := ob h
    refine k_X12_remember F qr3 q_1747 ⟨Nat.le_of_ble_eq_true rfl, Nat.le_of_ble_eq_true rfl, Nat.le_of_ble_eq_true rfl, Nat.le_of_ble_eq_true rfl⟩ hW hS hl.1 (Nat.le_of_ble_eq_true rfl) dX12_remove_15 (fun H locs hW hS => ?_)
    refine lv_iload_n hx hb dX12_remove_18 rfl (lv_at hl 1 rfl) ?_
    refine lv_iconst (v := (1 : Int32)) hx hb dX12_remove_19 (by decide) ?_
    refine lv_iadd hx hb dX12_remove_20 ?_
    obtain ⟨v4, ev4⟩ : ∃ y, y = (a1 + (1 : Int32)) := ⟨_, rfl⟩
    have h := nm_at ev4 h
    rw [← ev4]
    refine lv_istore_n (lv' := [(2, .int v4), (0, .ref (b + 306)), (1, .int a1)]) hx hb dX12_remove_21 rfl hl (by decide) rfl (fun ls hl => ?_)
    exact wk_X12_remove_22 F hr n _ _ _ _ _ h hW hS (lv_sub hl [1, 2, 0] rfl)
  · replace h := (if_pos cc).symm.trans h
    refine lv_iconst (v := (0 : Int32)) hx hb dX12_remove_12 (by decide) ?_
    cases h
    exact r_int F hr hW hS dX12_remove_13
set_option maxHeartbeats 4000000 in
set_option maxRecDepth 100000 in
theorem c_X12_remove {l : Launch} {G : Gt} {b : Nat} {n : Nat} {a1 : Int32} {μ : Mm} {out : (Int32 × Mm)} (h : sh_X12_remove n a1 μ = some out) : Met l yX12_remove (wU (Cond.code yX12_remove cX12_remove 3 (some .int))) ({ frames := 2, cells := 0, slots := 0, locals := 46 } : Room) (PcW (fg G) b μ [.ref (b + 306), .int a1]) (QW (fg G) b out.2 (some (.int out.1))) 0 0 (fb b) :=
  met_of [.ref (b + 306), .int a1] (by decide) (Nat.le_of_ble_eq_true rfl) (fun F hr hW hl => wk_X12_remove F hr h hW va_S.rf hl)
set_option maxHeartbeats 4000000 in
set_option maxRecDepth 100000 in
theorem k_X12_remove {own : String} {nL : Nat} (F : FX (fg G) b own cc nL p s m args meth c) {n : Nat} {a1 : Int32} {μ : Mm} {out : (Int32 × Mm)} (h : sh_X12_remove n a1 μ = some out) {index : Nat} (hl : Cond.methodLink own index yX12_remove ∈ TBG) (hR : 2 + 1 ≤ R.frames ∧ 8 + (3 + 11) + 46 ≤ R.locals ∧ cells ≤ R.cells ∧ slots ≤ R.slots) (hW : WH (fg G) b μ H) (hS : va_S (fb b) s.heap H locs) (hsz : ls.size = nL) (hrest : (rest.map fun v => v.category).sum ≤ 8) (hdg : decode cc pc = .ok (.invokevirtual index, 3))
    (kk : ∀ (H1 : Heap) (locs1 : List Loc), WH (fg G) b out.2 H1 → va_S (fb b) s.heap H1 locs1 → W p l e R s m args below meth c H1 locs1 cells slots Q (F0 m (pc + 3) ls (.int out.1 :: rest))) : W p l e R s m args below meth c H locs cells slots Q (F0 m pc ls (.int a1 :: .ref (b + 306) :: rest)) :=
  f_callV (As := [.int a1]) (ci := 12) (c_X12_remove h) ⟨rfl, rfl⟩ rfl (ky_lm kyf_306 (by decide)) (wF_12 kyf_306) q_2060 q_2061 q_14 q_2062 rfl ⟨by decide +kernel, by decide +kernel, (show (parseMethodDescriptor yX12_remove.desc).map (fun d => d.parameters.length) = some 1 by decide +kernel)⟩ F hl hR hW hS hsz hrest rfl hdg kk
set_option maxHeartbeats 4000000 in
set_option maxRecDepth 100000 in
theorem wk_X12_change {n : Nat} {a1 : Int32} {a2 : Int32} {μ : Mm} {out : (Int32 × Mm)} (F : FX (fg G) b RX12 cX12_change 4 p s m args meth c) (hr : meth.sig.returnType = some .int) (h : sh_X12_change n a1 a2 μ = some out) (hW : WH (fg G) b μ H) (hS : va_S (fb b) s.heap H locs) (hl : lv_has ls 4 [(0, .ref (b + 306)), (1, .int a1), (2, .int a2)]) : W p l e ({ frames := 1, cells := 0, slots := 0, locals := 21 } : Room) s m args below meth c H locs 0 0 (MQ below (QW (fg G) b out.2 (some (.int out.1))) args s 0 0 (fb b)) (F0 m 0 ls []) := by
  have hx := F.1
  have hb := F.2.1
  unfold sh_X12_change at h
  refine lv_aload_n hx hb dX12_change_0 rfl (lv_at hl 0 rfl) ?_
  obtain ⟨r1, qr1, h⟩ := ob h
  refine k_X12_remember F qr1 q_1747 ⟨Nat.le_of_ble_eq_true rfl, Nat.le_of_ble_eq_true rfl, Nat.le_of_ble_eq_true rfl, Nat.le_of_ble_eq_true rfl⟩ hW hS hl.1 (Nat.le_of_ble_eq_true rfl) dX12_change_1 (fun H locs hW hS => ?_)
  refine lv_aload_n hx hb dX12_change_4 rfl (lv_at hl 0 rfl) ?_
  refine fl_get12 (v := .ref (b + 307)) kyf_306 F hW 1 (by decide) q_1472 rfl rfl dX12_change_5 ?_
  refine lv_iload_n hx hb dX12_change_8 rfl (lv_at hl 1 rfl) ?_
  obtain ⟨v2, qv2, h⟩ := ob h
  refine fm_iald kyf_307 F hW qv2 dX12_change_9 ?_
  refine lv_istore_n (lv' := [(3, .int v2), (0, .ref (b + 306)), (1, .int a1), (2, .int a2)]) hx hb dX12_change_10 rfl hl (by decide) rfl (fun ls hl => ?_)
  refine lv_aload_n hx hb dX12_change_11 rfl (lv_at hl 1 rfl) ?_
  refine fl_get12 (v := .ref (b + 307)) kyf_306 F hW 1 (by decide) q_1472 rfl rfl dX12_change_12 ?_
  refine lv_iload_n hx hb dX12_change_15 rfl (lv_at hl 2 rfl) ?_
  refine lv_iload_n hx hb dX12_change_16 rfl (lv_at hl 3 rfl) ?_
  obtain ⟨μ3, qμ3, h⟩ := ob h
  refine fm_iast kyf_307 F hW hS qμ3 dX12_change_17 (fun H locs hW hS => ?_)
  refine lv_iload_n hx hb dX12_change_18 rfl (lv_at hl 0 rfl) ?_
  cases h
  exact r_int F hr hW hS dX12_change_19
set_option maxHeartbeats 4000000 in
set_option maxRecDepth 100000 in
theorem c_X12_change {l : Launch} {G : Gt} {b : Nat} {n : Nat} {a1 : Int32} {a2 : Int32} {μ : Mm} {out : (Int32 × Mm)} (h : sh_X12_change n a1 a2 μ = some out) : Met l yX12_change (wU (Cond.code yX12_change cX12_change 4 (some .int))) ({ frames := 1, cells := 0, slots := 0, locals := 21 } : Room) (PcW (fg G) b μ [.ref (b + 306), .int a1, .int a2]) (QW (fg G) b out.2 (some (.int out.1))) 0 0 (fb b) :=
  met_of [.ref (b + 306), .int a1, .int a2] (by decide) (Nat.le_of_ble_eq_true rfl) (fun F hr hW hl => wk_X12_change F hr h hW va_S.rf hl)
set_option maxHeartbeats 4000000 in
set_option maxRecDepth 100000 in
theorem k_X12_change {own : String} {nL : Nat} (F : FX (fg G) b own cc nL p s m args meth c) {n : Nat} {a1 : Int32} {a2 : Int32} {μ : Mm} {out : (Int32 × Mm)} (h : sh_X12_change n a1 a2 μ = some out) {index : Nat} (hl : Cond.methodLink own index yX12_change ∈ TBG) (hR : 1 + 1 ≤ R.frames ∧ 8 + (4 + 11) + 21 ≤ R.locals ∧ cells ≤ R.cells ∧ slots ≤ R.slots) (hW : WH (fg G) b μ H) (hS : va_S (fb b) s.heap H locs) (hsz : ls.size = nL) (hrest : (rest.map fun v => v.category).sum ≤ 8) (hdg : decode cc pc = .ok (.invokevirtual index, 3))
    (kk : ∀ (H1 : Heap) (locs1 : List Loc), WH (fg G) b out.2 H1 → va_S (fb b) s.heap H1 locs1 → W p l e R s m args below meth c H1 locs1 cells slots Q (F0 m (pc + 3) ls (.int out.1 :: rest))) : W p l e R s m args below meth c H locs cells slots Q (F0 m pc ls (.int a2 :: .int a1 :: .ref (b + 306) :: rest)) :=
  f_callV (As := [.int a1, .int a2]) (ci := 12) (c_X12_change h) ⟨rfl, rfl⟩ rfl (ky_lm kyf_306 (by decide)) (wF_12 kyf_306) q_2071 qp_109 q_14 q_2072 rfl ⟨by decide +kernel, by decide +kernel, (show (parseMethodDescriptor yX12_change.desc).map (fun d => d.parameters.length) = some 2 by decide +kernel)⟩ F hl hR hW hS hsz hrest rfl hdg kk
set_option maxHeartbeats 4000000 in
set_option maxRecDepth 100000 in
theorem wk_X12_setWidth {n : Nat} {a1 : Int32} {μ : Mm} {out : (Int32 × Mm)} (F : FX (fg G) b RX12 cX12_setWidth 2 p s m args meth c) (hr : meth.sig.returnType = some .int) (h : sh_X12_setWidth n a1 μ = some out) (hW : WH (fg G) b μ H) (hS : va_S (fb b) s.heap H locs) (hl : lv_has ls 2 [(0, .ref (b + 306)), (1, .int a1)]) : W p l e ({ frames := 2, cells := 0, slots := 0, locals := 44 } : Room) s m args below meth c H locs 0 0 (MQ below (QW (fg G) b out.2 (some (.int out.1))) args s 0 0 (fb b)) (F0 m 0 ls []) := by
  have hx := F.1
  have hb := F.2.1
  unfold sh_X12_setWidth at h
  refine lv_aload_n hx hb dX12_setWidth_0 rfl (lv_at hl 0 rfl) ?_
  refine lv_iload_n hx hb dX12_setWidth_1 rfl (lv_at hl 1 rfl) ?_
  refine lv_i2l hx hb dX12_setWidth_2 rfl ?_
  refine lv_ldc2 hx hb F.2.2.2.1 (F.2.2.2.2.1 _ q_2067) dX12_setWidth_3 ?_
  refine lv_ldc2 hx hb F.2.2.2.1 (F.2.2.2.2.1 _ q_2068) dX12_setWidth_6 ?_
  obtain ⟨r1, qr1, h⟩ := ob h
  refine k_X12_in F qr1 q_1643 ⟨Nat.le_of_ble_eq_true rfl, Nat.le_of_ble_eq_true rfl, Nat.le_of_ble_eq_true rfl, Nat.le_of_ble_eq_true rfl⟩ hW hS hl.1 (Nat.le_of_ble_eq_true rfl) dX12_setWidth_9 (fun H locs hW hS => ?_)
  obtain ⟨r2, qr2, h⟩ := ob h
  refine k_X12_passes F qr2 q_1627 ⟨Nat.le_of_ble_eq_true rfl, Nat.le_of_ble_eq_true rfl, Nat.le_of_ble_eq_true rfl, Nat.le_of_ble_eq_true rfl⟩ hW hS hl.1 (Nat.le_of_ble_eq_true rfl) dX12_setWidth_12 (fun H locs hW hS => ?_)
  refine lv_if_eq (tgt := 27) hx hb dX12_setWidth_15 (by decide) (fun cc => ?_) (fun cc => ?_)
  · replace h := (if_pos cc).symm.trans h
    refine lv_iconst (v := (0 : Int32)) hx hb dX12_setWidth_27 (by decide) ?_
    cases h
    exact r_int F hr hW hS dX12_setWidth_28
  · replace h := (if_neg cc).symm.trans h
    refine lv_aload_n hx hb dX12_setWidth_18 rfl (lv_at hl 0 rfl) ?_
    refine lv_iconst (v := (0 : Int32)) hx hb dX12_setWidth_19 (by decide) ?_
    refine lv_iload_n hx hb dX12_setWidth_20 rfl (lv_at hl 1 rfl) ?_
    obtain ⟨r3, qr3, h⟩ := ob h
    refine k_X12_change F qr3 q_2069 ⟨Nat.le_of_ble_eq_true rfl, Nat.le_of_ble_eq_true rfl, Nat.le_of_ble_eq_true rfl, Nat.le_of_ble_eq_true rfl⟩ hW hS hl.1 (Nat.le_of_ble_eq_true rfl) dX12_setWidth_21 (fun H locs hW hS => ?_)
    refine lv_goto (tgt := 28) hx hb dX12_setWidth_24 (by decide) ?_
    cases h
    exact r_int F hr hW hS dX12_setWidth_28
set_option maxHeartbeats 4000000 in
set_option maxRecDepth 100000 in
theorem c_X12_setWidth {l : Launch} {G : Gt} {b : Nat} {n : Nat} {a1 : Int32} {μ : Mm} {out : (Int32 × Mm)} (h : sh_X12_setWidth n a1 μ = some out) : Met l yX12_setWidth (wU (Cond.code yX12_setWidth cX12_setWidth 2 (some .int))) ({ frames := 2, cells := 0, slots := 0, locals := 44 } : Room) (PcW (fg G) b μ [.ref (b + 306), .int a1]) (QW (fg G) b out.2 (some (.int out.1))) 0 0 (fb b) :=
  met_of [.ref (b + 306), .int a1] (by decide) (Nat.le_of_ble_eq_true rfl) (fun F hr hW hl => wk_X12_setWidth F hr h hW va_S.rf hl)
set_option maxHeartbeats 4000000 in
set_option maxRecDepth 100000 in
theorem k_X12_setWidth {own : String} {nL : Nat} (F : FX (fg G) b own cc nL p s m args meth c) {n : Nat} {a1 : Int32} {μ : Mm} {out : (Int32 × Mm)} (h : sh_X12_setWidth n a1 μ = some out) {index : Nat} (hl : Cond.methodLink own index yX12_setWidth ∈ TBG) (hR : 2 + 1 ≤ R.frames ∧ 8 + (2 + 11) + 44 ≤ R.locals ∧ cells ≤ R.cells ∧ slots ≤ R.slots) (hW : WH (fg G) b μ H) (hS : va_S (fb b) s.heap H locs) (hsz : ls.size = nL) (hrest : (rest.map fun v => v.category).sum ≤ 8) (hdg : decode cc pc = .ok (.invokevirtual index, 3))
    (kk : ∀ (H1 : Heap) (locs1 : List Loc), WH (fg G) b out.2 H1 → va_S (fb b) s.heap H1 locs1 → W p l e R s m args below meth c H1 locs1 cells slots Q (F0 m (pc + 3) ls (.int out.1 :: rest))) : W p l e R s m args below meth c H locs cells slots Q (F0 m pc ls (.int a1 :: .ref (b + 306) :: rest)) :=
  f_callV (As := [.int a1]) (ci := 12) (c_X12_setWidth h) ⟨rfl, rfl⟩ rfl (ky_lm kyf_306 (by decide)) (wF_12 kyf_306) q_2064 q_2065 q_14 q_2066 rfl ⟨by decide +kernel, by decide +kernel, (show (parseMethodDescriptor yX12_setWidth.desc).map (fun d => d.parameters.length) = some 1 by decide +kernel)⟩ F hl hR hW hS hsz hrest rfl hdg kk
set_option maxHeartbeats 4000000 in
set_option maxRecDepth 100000 in
theorem wk_X12_setGrid {n : Nat} {a1 : Int32} {μ : Mm} {out : (Int32 × Mm)} (F : FX (fg G) b RX12 cX12_setGrid 2 p s m args meth c) (hr : meth.sig.returnType = some .int) (h : sh_X12_setGrid n a1 μ = some out) (hW : WH (fg G) b μ H) (hS : va_S (fb b) s.heap H locs) (hl : lv_has ls 2 [(0, .ref (b + 306)), (1, .int a1)]) : W p l e ({ frames := 2, cells := 0, slots := 0, locals := 44 } : Room) s m args below meth c H locs 0 0 (MQ below (QW (fg G) b out.2 (some (.int out.1))) args s 0 0 (fb b)) (F0 m 0 ls []) := by
  have hx := F.1
  have hb := F.2.1
  unfold sh_X12_setGrid at h
  refine lv_aload_n hx hb dX12_setGrid_0 rfl (lv_at hl 0 rfl) ?_
  refine lv_iload_n hx hb dX12_setGrid_1 rfl (lv_at hl 1 rfl) ?_
  refine lv_i2l hx hb dX12_setGrid_2 rfl ?_
  refine lv_lconst (v := (1 : Int64)) hx hb dX12_setGrid_3 (by decide) ?_
  refine lv_ldc2 hx hb F.2.2.2.1 (F.2.2.2.2.1 _ q_2077) dX12_setGrid_4 ?_
  obtain ⟨r1, qr1, h⟩ := ob h
  refine k_X12_in F qr1 q_1643 ⟨Nat.le_of_ble_eq_true rfl, Nat.le_of_ble_eq_true rfl, Nat.le_of_ble_eq_true rfl, Nat.le_of_ble_eq_true rfl⟩ hW hS hl.1 (Nat.le_of_ble_eq_true rfl) dX12_setGrid_7 (fun H locs hW hS => ?_)
  obtain ⟨r2, qr2, h⟩ := ob h
  refine k_X12_passes F qr2 q_1627 ⟨Nat.le_of_ble_eq_true rfl, Nat.le_of_ble_eq_true rfl, Nat.le_of_ble_eq_true rfl, Nat.le_of_ble_eq_true rfl⟩ hW hS hl.1 (Nat.le_of_ble_eq_true rfl) dX12_setGrid_10 (fun H locs hW hS => ?_)
  refine lv_if_eq (tgt := 26) hx hb dX12_setGrid_13 (by decide) (fun cc => ?_) (fun cc => ?_)
  · replace h := (if_pos cc).symm.trans h
    refine lv_iconst (v := (0 : Int32)) hx hb dX12_setGrid_26 (by decide) ?_
    cases h
    exact r_int F hr hW hS dX12_setGrid_27
  · replace h := (if_neg cc).symm.trans h
    refine lv_aload_n hx hb dX12_setGrid_16 rfl (lv_at hl 0 rfl) ?_
    refine lv_bipush (v := (7 : Int32)) hx hb dX12_setGrid_17 (by decide) ?_
    refine lv_iload_n hx hb dX12_setGrid_19 rfl (lv_at hl 1 rfl) ?_
    obtain ⟨r3, qr3, h⟩ := ob h
    refine k_X12_change F qr3 q_2069 ⟨Nat.le_of_ble_eq_true rfl, Nat.le_of_ble_eq_true rfl, Nat.le_of_ble_eq_true rfl, Nat.le_of_ble_eq_true rfl⟩ hW hS hl.1 (Nat.le_of_ble_eq_true rfl) dX12_setGrid_20 (fun H locs hW hS => ?_)
    refine lv_goto (tgt := 27) hx hb dX12_setGrid_23 (by decide) ?_
    cases h
    exact r_int F hr hW hS dX12_setGrid_27
set_option maxHeartbeats 4000000 in
set_option maxRecDepth 100000 in
theorem c_X12_setGrid {l : Launch} {G : Gt} {b : Nat} {n : Nat} {a1 : Int32} {μ : Mm} {out : (Int32 × Mm)} (h : sh_X12_setGrid n a1 μ = some out) : Met l yX12_setGrid (wU (Cond.code yX12_setGrid cX12_setGrid 2 (some .int))) ({ frames := 2, cells := 0, slots := 0, locals := 44 } : Room) (PcW (fg G) b μ [.ref (b + 306), .int a1]) (QW (fg G) b out.2 (some (.int out.1))) 0 0 (fb b) :=
  met_of [.ref (b + 306), .int a1] (by decide) (Nat.le_of_ble_eq_true rfl) (fun F hr hW hl => wk_X12_setGrid F hr h hW va_S.rf hl)
set_option maxHeartbeats 4000000 in
set_option maxRecDepth 100000 in
theorem k_X12_setGrid {own : String} {nL : Nat} (F : FX (fg G) b own cc nL p s m args meth c) {n : Nat} {a1 : Int32} {μ : Mm} {out : (Int32 × Mm)} (h : sh_X12_setGrid n a1 μ = some out) {index : Nat} (hl : Cond.methodLink own index yX12_setGrid ∈ TBG) (hR : 2 + 1 ≤ R.frames ∧ 8 + (2 + 11) + 44 ≤ R.locals ∧ cells ≤ R.cells ∧ slots ≤ R.slots) (hW : WH (fg G) b μ H) (hS : va_S (fb b) s.heap H locs) (hsz : ls.size = nL) (hrest : (rest.map fun v => v.category).sum ≤ 8) (hdg : decode cc pc = .ok (.invokevirtual index, 3))
    (kk : ∀ (H1 : Heap) (locs1 : List Loc), WH (fg G) b out.2 H1 → va_S (fb b) s.heap H1 locs1 → W p l e R s m args below meth c H1 locs1 cells slots Q (F0 m (pc + 3) ls (.int out.1 :: rest))) : W p l e R s m args below meth c H locs cells slots Q (F0 m pc ls (.int a1 :: .ref (b + 306) :: rest)) :=
  f_callV (As := [.int a1]) (ci := 12) (c_X12_setGrid h) ⟨rfl, rfl⟩ rfl (ky_lm kyf_306 (by decide)) (wF_12 kyf_306) q_2074 q_2075 q_14 q_2076 rfl ⟨by decide +kernel, by decide +kernel, (show (parseMethodDescriptor yX12_setGrid.desc).map (fun d => d.parameters.length) = some 1 by decide +kernel)⟩ F hl hR hW hS hsz hrest rfl hdg kk
set_option maxHeartbeats 4000000 in
set_option maxRecDepth 100000 in
theorem wk_X12_setRight_17 {n : Nat} {a1 : Int32} {s1 : Int32} {s2 : Int32} {μ : Mm} {out : (Int32 × Mm)} (F : FX (fg G) b RX12 cX12_setRight 2 p s m args meth c) (hr : meth.sig.returnType = some .boolean) (h : sh_X12_setRight_17 n a1 s1 s2 μ = some out) (hW : WH (fg G) b μ H) (hS : va_S (fb b) s.heap H locs) (hl : lv_has ls 2 []) : W p l e ({ frames := 2, cells := 0, slots := 0, locals := 44 } : Room) s m args below meth c H locs 0 0 (MQ below (QW (fg G) b out.2 (some (.int out.1))) args s 0 0 (fb b)) (F0 m 17 ls [.int s2, .int s1, .ref (b + 306)]) := by
  have hx := F.1
  have hb := F.2.1
  unfold sh_X12_setRight_17 at h
  obtain ⟨r2, qr2, h⟩ := ob h
  refine k_X12_change F qr2 q_2069 ⟨Nat.le_of_ble_eq_true rfl, Nat.le_of_ble_eq_true rfl, Nat.le_of_ble_eq_true rfl, Nat.le_of_ble_eq_true rfl⟩ hW hS hl.1 (Nat.le_of_ble_eq_true rfl) dX12_setRight_17 (fun H locs hW hS => ?_)
  refine lv_iconst (v := (1 : Int32)) hx hb dX12_setRight_20 (by decide) ?_
  refine lv_icmp_ne (tgt := 28) hx hb dX12_setRight_21 (by decide) (fun cc => ?_) (fun cc => ?_)
  · replace h := (if_neg cc).symm.trans h
    refine lv_iconst (v := (0 : Int32)) hx hb dX12_setRight_28 (by decide) ?_
    cases h
    exact r_bool F hr (Or.inl rfl) hW hS dX12_setRight_29
  · replace h := (if_pos cc).symm.trans h
    refine lv_iconst (v := (1 : Int32)) hx hb dX12_setRight_24 (by decide) ?_
    refine lv_goto (tgt := 29) hx hb dX12_setRight_25 (by decide) ?_
    cases h
    exact r_bool F hr (Or.inr rfl) hW hS dX12_setRight_29
set_option maxHeartbeats 4000000 in
set_option maxRecDepth 100000 in
theorem wk_X12_setRight {n : Nat} {a1 : Int32} {μ : Mm} {out : (Int32 × Mm)} (F : FX (fg G) b RX12 cX12_setRight 2 p s m args meth c) (hr : meth.sig.returnType = some .boolean) (h : sh_X12_setRight n a1 μ = some out) (hW : WH (fg G) b μ H) (hS : va_S (fb b) s.heap H locs) (hl : lv_has ls 2 [(0, .ref (b + 306)), (1, .int a1)]) : W p l e ({ frames := 2, cells := 0, slots := 0, locals := 44 } : Room) s m args below meth c H locs 0 0 (MQ below (QW (fg G) b out.2 (some (.int out.1))) args s 0 0 (fb b)) (F0 m 0 ls []) := by
  have hx := F.1
  have hb := F.2.1
  unfold sh_X12_setRight at h
  refine lv_aload_n hx hb dX12_setRight_0 rfl (lv_at hl 0 rfl) ?_
  refine lv_iconst (v := (0 : Int32)) hx hb dX12_setRight_1 (by decide) ?_
  obtain ⟨μ1, hmμ1, h⟩ := ob h
  refine fl_put12_0 kyf_306 F hW hS q_1471 hmμ1 dX12_setRight_2 (fun H locs hW hS => ?_)
  refine lv_aload_n hx hb dX12_setRight_5 rfl (lv_at hl 0 rfl) ?_
  refine lv_bipush (v := (8 : Int32)) hx hb dX12_setRight_6 (by decide) ?_
  refine lv_iload_n hx hb dX12_setRight_8 rfl (lv_at hl 1 rfl) ?_
  refine lv_if_eq (tgt := 16) hx hb dX12_setRight_9 (by decide) (fun cc => ?_) (fun cc => ?_)
  · replace h := (if_pos cc).symm.trans h
    refine lv_iconst (v := (0 : Int32)) hx hb dX12_setRight_16 (by decide) ?_
    exact wk_X12_setRight_17 F hr h hW hS (lv_sub hl [] rfl)
  · replace h := (if_neg cc).symm.trans h
    refine lv_iconst (v := (1 : Int32)) hx hb dX12_setRight_12 (by decide) ?_
    refine lv_goto (tgt := 17) hx hb dX12_setRight_13 (by decide) ?_
    exact wk_X12_setRight_17 F hr h hW hS (lv_sub hl [] rfl)
set_option maxHeartbeats 4000000 in
set_option maxRecDepth 100000 in
theorem c_X12_setRight {l : Launch} {G : Gt} {b : Nat} {n : Nat} {a1 : Int32} {μ : Mm} {out : (Int32 × Mm)} (h : sh_X12_setRight n a1 μ = some out) : Met l yX12_setRight (wU (Cond.code yX12_setRight cX12_setRight 2 (some .boolean))) ({ frames := 2, cells := 0, slots := 0, locals := 44 } : Room) (PcW (fg G) b μ [.ref (b + 306), .int a1]) (QW (fg G) b out.2 (some (.int out.1))) 0 0 (fb b) :=
  met_of [.ref (b + 306), .int a1] (by decide) (Nat.le_of_ble_eq_true rfl) (fun F hr hW hl => wk_X12_setRight F hr h hW va_S.rf hl)
set_option maxHeartbeats 4000000 in
set_option maxRecDepth 100000 in
theorem k_X12_setRight {own : String} {nL : Nat} (F : FX (fg G) b own cc nL p s m args meth c) {n : Nat} {a1 : Int32} {μ : Mm} {out : (Int32 × Mm)} (h : sh_X12_setRight n a1 μ = some out) {index : Nat} (hl : Cond.methodLink own index yX12_setRight ∈ TBG) (hR : 2 + 1 ≤ R.frames ∧ 8 + (2 + 11) + 44 ≤ R.locals ∧ cells ≤ R.cells ∧ slots ≤ R.slots) (hW : WH (fg G) b μ H) (hS : va_S (fb b) s.heap H locs) (hsz : ls.size = nL) (hrest : (rest.map fun v => v.category).sum ≤ 8) (hdg : decode cc pc = .ok (.invokevirtual index, 3))
    (kk : ∀ (H1 : Heap) (locs1 : List Loc), WH (fg G) b out.2 H1 → va_S (fb b) s.heap H1 locs1 → W p l e R s m args below meth c H1 locs1 cells slots Q (F0 m (pc + 3) ls (.int out.1 :: rest))) : W p l e R s m args below meth c H locs cells slots Q (F0 m pc ls (.int a1 :: .ref (b + 306) :: rest)) :=
  f_callV (As := [.int a1]) (ci := 12) (c_X12_setRight h) ⟨rfl, rfl⟩ rfl (ky_lm kyf_306 (by decide)) (wF_12 kyf_306) q_2079 q_2080 q_14 q_2081 rfl ⟨by decide +kernel, by decide +kernel, (show (parseMethodDescriptor yX12_setRight.desc).map (fun d => d.parameters.length) = some 1 by decide +kernel)⟩ F hl hR hW hS hsz hrest rfl hdg kk
set_option maxHeartbeats 4000000 in
set_option maxRecDepth 100000 in
theorem wk_X12_putLine_89 {n : Nat} {a1 : Int32} {out : Mm} (F : FX (fg G) b RX12 cX12_putLine 4 p s m args meth c) (hr : meth.sig.returnType = none) : ∀ (f : Nat) (x2 : Int32) (x3 : Int32) (μ : Mm) (H : Heap) (locs : List Loc) (ls : Array Slot), sh_X12_putLine_89 n a1 f x2 x3 μ = some out → WH (fg G) b μ H → va_S (fb b) s.heap H locs → lv_has ls 4 [(0, .ref (b + 306)), (1, .int a1), (2, .int x2), (3, .int x3)] → W p l e ({ frames := 4, cells := 0, slots := 0, locals := 90 } : Room) s m args below meth c H locs 0 0 (MQ below (QW (fg G) b out none) args s 0 0 (fb b)) (F0 m 89 ls []) := by
  have hx := F.1
  have hb := F.2.1
  intro f
  induction f with
  | zero =>
    intro _ _ _ _ _ _ h
    rw [sh_X12_putLine_89] at h
    cases h
  | succ f ih =>
    intro x2 x3 μ H locs ls h hW hS hl
    rw [sh_X12_putLine_89] at h
    have hk89 := ih
    refine lv_iload_n hx hb dX12_putLine_89 rfl (lv_at hl 3 rfl) ?_
    refine lv_aload_n hx hb dX12_putLine_90 rfl (lv_at hl 0 rfl) ?_
    refine fl_get12 (v := .ref (b + 322)) kyf_306 F hW 33 (by decide) q_1504 rfl rfl dX12_putLine_91 ?_
    refine lv_iload_n hx hb dX12_putLine_94 rfl (lv_at hl 1 rfl) ?_
    obtain ⟨v7, qv7, h⟩ := ob h
    refine fm_iald kyf_322 F hW qv7 dX12_putLine_95 ?_
    refine lv_icmp_ge (tgt := 111) hx hb dX12_putLine_96 (by decide) (fun cc => ?_) (fun cc => ?_)
    · replace h := (if_pos cc).symm.trans h
      refine lv_aload_n hx hb dX12_putLine_111 rfl (lv_at hl 0 rfl) ?_
      refine lv_bipush (v := (32 : Int32)) hx hb dX12_putLine_112 (by decide) ?_
      obtain ⟨r8, qr8, h⟩ := ob h
      refine k_X12_put F qr8 q_1804 ⟨Nat.le_of_ble_eq_true rfl, Nat.le_of_ble_eq_true rfl, Nat.le_of_ble_eq_true rfl, Nat.le_of_ble_eq_true rfl⟩ hW hS hl.1 (Nat.le_of_ble_eq_true rfl) dX12_putLine_114 (fun H locs hW hS => ?_)
      refine lv_aload_n hx hb dX12_putLine_117 rfl (lv_at hl 0 rfl) ?_
      refine lv_iload_n hx hb dX12_putLine_118 rfl (lv_at hl 2 rfl) ?_
      obtain ⟨r9, qr9, h⟩ := ob h
      refine k_X12_putPrinted F qr9 q_1796 ⟨Nat.le_of_ble_eq_true rfl, Nat.le_of_ble_eq_true rfl, Nat.le_of_ble_eq_true rfl, Nat.le_of_ble_eq_true rfl⟩ hW hS hl.1 (Nat.le_of_ble_eq_true rfl) dX12_putLine_119 (fun H locs hW hS => ?_)
      refine lv_aload_n hx hb dX12_putLine_122 rfl (lv_at hl 0 rfl) ?_
      refine lv_bipush (v := (10 : Int32)) hx hb dX12_putLine_123 (by decide) ?_
      obtain ⟨r10, qr10, h⟩ := ob h
      refine k_X12_put F qr10 q_1804 ⟨Nat.le_of_ble_eq_true rfl, Nat.le_of_ble_eq_true rfl, Nat.le_of_ble_eq_true rfl, Nat.le_of_ble_eq_true rfl⟩ hW hS hl.1 (Nat.le_of_ble_eq_true rfl) dX12_putLine_125 (fun H locs hW hS => ?_)
      cases h
      exact r_void F hr hW hS dX12_putLine_128
    · replace h := (if_neg cc).symm.trans h
      refine lv_aload_n hx hb dX12_putLine_99 rfl (lv_at hl 0 rfl) ?_
      refine lv_bipush (v := (46 : Int32)) hx hb dX12_putLine_100 (by decide) ?_
      obtain ⟨r11, qr11, h⟩ := ob h
      refine k_X12_put F qr11 q_1804 ⟨Nat.le_of_ble_eq_true rfl, Nat.le_of_ble_eq_true rfl, Nat.le_of_ble_eq_true rfl, Nat.le_of_ble_eq_true rfl⟩ hW hS hl.1 (Nat.le_of_ble_eq_true rfl) dX12_putLine_102 (fun H locs hW hS => ?_)
      refine lv_iinc (v := (x3 + (1 : Int32))) (lv' := [(3, .int (x3 + (1 : Int32))), (0, .ref (b + 306)), (1, .int a1), (2, .int x2)]) hx hb dX12_putLine_105 hl (k := 3) rfl rfl (by decide) rfl (fun ls hl => ?_)
      refine lv_goto (tgt := 89) hx hb dX12_putLine_108 (by decide) ?_
      exact hk89 _ _ _ _ _ _ h hW hS (lv_sub hl [1, 2, 3, 0] rfl)
set_option maxHeartbeats 4000000 in
set_option maxRecDepth 100000 in
theorem wk_X12_putLine_53 {n : Nat} {a1 : Int32} {k33 : (Int32 → Int32 → Mm → Option Mm)} {x2 : Int32} {x3 : Int32} {μ : Mm} {out : Mm} (F : FX (fg G) b RX12 cX12_putLine 4 p s m args meth c) (hr : meth.sig.returnType = none) (hk33 : ∀ (x2 : Int32) (x3 : Int32) (μ : Mm) (H : Heap) (locs : List Loc) (ls : Array Slot), k33 x2 x3 μ = some out → WH (fg G) b μ H → va_S (fb b) s.heap H locs → lv_has ls 4 [(0, .ref (b + 306)), (1, .int a1), (2, .int x2), (3, .int x3)] → W p l e ({ frames := 4, cells := 0, slots := 0, locals := 90 } : Room) s m args below meth c H locs 0 0 (MQ below (QW (fg G) b out none) args s 0 0 (fb b)) (F0 m 33 ls [])) (h : sh_X12_putLine_53 n a1 k33 x2 x3 μ = some out) (hW : WH (fg G) b μ H) (hS : va_S (fb b) s.heap H locs) (hl : lv_has ls 4 [(0, .ref (b + 306)), (1, .int a1), (2, .int x2), (3, .int x3)]) : W p l e ({ frames := 4, cells := 0, slots := 0, locals := 90 } : Room) s m args below meth c H locs 0 0 (MQ below (QW (fg G) b out none) args s 0 0 (fb b)) (F0 m 53 ls []) := by
  have hx := F.1
  have hb := F.2.1
  unfold sh_X12_putLine_53 at h
  refine lv_aload_n hx hb dX12_putLine_53 rfl (lv_at hl 0 rfl) ?_
  refine lv_iload_n hx hb dX12_putLine_54 rfl (lv_at hl 2 rfl) ?_
  refine lv_aload_n hx hb dX12_putLine_55 rfl (lv_at hl 0 rfl) ?_
  refine fl_get12 (v := .ref (b + 318)) kyf_306 F hW 29 (by decide) q_1500 rfl rfl dX12_putLine_56 ?_
  refine lv_iload_n hx hb dX12_putLine_59 rfl (lv_at hl 1 rfl) ?_
  obtain ⟨v12, qv12, h⟩ := ob h
  refine fm_iald kyf_318 F hW qv12 dX12_putLine_60 ?_
  refine lv_iload_n hx hb dX12_putLine_61 rfl (lv_at hl 3 rfl) ?_
  refine lv_iadd hx hb dX12_putLine_62 ?_
  obtain ⟨r13, qr13, h⟩ := ob h
  refine k_X12_putToken F qr13 q_1832 ⟨Nat.le_of_ble_eq_true rfl, Nat.le_of_ble_eq_true rfl, Nat.le_of_ble_eq_true rfl, Nat.le_of_ble_eq_true rfl⟩ hW hS hl.1 (Nat.le_of_ble_eq_true rfl) dX12_putLine_63 (fun H locs hW hS => ?_)
  refine lv_iinc (v := (x3 + (1 : Int32))) (lv' := [(3, .int (x3 + (1 : Int32))), (0, .ref (b + 306)), (1, .int a1), (2, .int x2)]) hx hb dX12_putLine_66 hl (k := 3) rfl rfl (by decide) rfl (fun ls hl => ?_)
  refine lv_goto (tgt := 33) hx hb dX12_putLine_69 (by decide) ?_
  exact hk33 _ _ _ _ _ _ h hW hS (lv_sub hl [1, 2, 3, 0] rfl)
set_option maxHeartbeats 4000000 in
set_option maxRecDepth 100000 in
theorem wk_X12_putLine_33 {n : Nat} {a1 : Int32} {out : Mm} (F : FX (fg G) b RX12 cX12_putLine 4 p s m args meth c) (hr : meth.sig.returnType = none) : ∀ (f : Nat) (x2 : Int32) (x3 : Int32) (μ : Mm) (H : Heap) (locs : List Loc) (ls : Array Slot), sh_X12_putLine_33 n a1 f x2 x3 μ = some out → WH (fg G) b μ H → va_S (fb b) s.heap H locs → lv_has ls 4 [(0, .ref (b + 306)), (1, .int a1), (2, .int x2), (3, .int x3)] → W p l e ({ frames := 4, cells := 0, slots := 0, locals := 90 } : Room) s m args below meth c H locs 0 0 (MQ below (QW (fg G) b out none) args s 0 0 (fb b)) (F0 m 33 ls []) := by
  have hx := F.1
  have hb := F.2.1
  intro f
  induction f with
  | zero =>
    intro _ _ _ _ _ _ h
    rw [sh_X12_putLine_33] at h
    cases h
  | succ f ih =>
    intro x2 x3 μ H locs ls h hW hS hl
    rw [sh_X12_putLine_33] at h
    have hk33 := ih
    refine lv_iload_n hx hb dX12_putLine_33 rfl (lv_at hl 3 rfl) ?_
    refine lv_aload_n hx hb dX12_putLine_34 rfl (lv_at hl 0 rfl) ?_
    refine fl_get12 (v := .ref (b + 319)) kyf_306 F hW 30 (by decide) q_1501 rfl rfl dX12_putLine_35 ?_
    refine lv_iload_n hx hb dX12_putLine_38 rfl (lv_at hl 1 rfl) ?_
    obtain ⟨v3, qv3, h⟩ := ob h
    refine fm_iald kyf_319 F hW qv3 dX12_putLine_39 ?_
    refine lv_icmp_ge (tgt := 72) hx hb dX12_putLine_40 (by decide) (fun cc => ?_) (fun cc => ?_)
    · replace h := (if_pos cc).symm.trans h
      refine lv_aload_n hx hb dX12_putLine_72 rfl (lv_at hl 0 rfl) ?_
      refine fl_get12 (v := .ref (b + 321)) kyf_306 F hW 32 (by decide) q_1503 rfl rfl dX12_putLine_73 ?_
      refine lv_iload_n hx hb dX12_putLine_76 rfl (lv_at hl 1 rfl) ?_
      obtain ⟨v4, qv4, h⟩ := ob h
      refine fm_zald kyf_321 F hW qv4 dX12_putLine_77 ?_
      refine lv_if_eq (tgt := 122) hx hb dX12_putLine_78 (by decide) (fun cc => ?_) (fun cc => ?_)
      · replace h := (if_pos cc).symm.trans h
        refine lv_aload_n hx hb dX12_putLine_122 rfl (lv_at hl 0 rfl) ?_
        refine lv_bipush (v := (10 : Int32)) hx hb dX12_putLine_123 (by decide) ?_
        obtain ⟨r5, qr5, h⟩ := ob h
        refine k_X12_put F qr5 q_1804 ⟨Nat.le_of_ble_eq_true rfl, Nat.le_of_ble_eq_true rfl, Nat.le_of_ble_eq_true rfl, Nat.le_of_ble_eq_true rfl⟩ hW hS hl.1 (Nat.le_of_ble_eq_true rfl) dX12_putLine_125 (fun H locs hW hS => ?_)
        cases h
        exact r_void F hr hW hS dX12_putLine_128
      · replace h := (if_neg cc).symm.trans h
        refine lv_aload_n hx hb dX12_putLine_81 rfl (lv_at hl 0 rfl) ?_
        refine lv_bipush (v := (32 : Int32)) hx hb dX12_putLine_82 (by decide) ?_
        obtain ⟨r6, qr6, h⟩ := ob h
        refine k_X12_put F qr6 q_1804 ⟨Nat.le_of_ble_eq_true rfl, Nat.le_of_ble_eq_true rfl, Nat.le_of_ble_eq_true rfl, Nat.le_of_ble_eq_true rfl⟩ hW hS hl.1 (Nat.le_of_ble_eq_true rfl) dX12_putLine_84 (fun H locs hW hS => ?_)
        refine lv_iconst (v := (0 : Int32)) hx hb dX12_putLine_87 (by decide) ?_
        refine lv_istore_n (lv' := [(3, .int (0 : Int32)), (0, .ref (b + 306)), (1, .int a1), (2, .int x2)]) hx hb dX12_putLine_88 rfl hl (by decide) rfl (fun ls hl => ?_)
        exact wk_X12_putLine_89 F hr n _ _ _ _ _ _ h hW hS (lv_sub hl [1, 2, 3, 0] rfl)
    · replace h := (if_neg cc).symm.trans h
      refine lv_iload_n hx hb dX12_putLine_43 rfl (lv_at hl 3 rfl) ?_
      refine lv_if_le (tgt := 53) hx hb dX12_putLine_44 (by decide) (fun cc => ?_) (fun cc => ?_)
      · replace h := (if_pos cc).symm.trans h
        exact wk_X12_putLine_53 F hr hk33 h hW hS (lv_sub hl [0, 1, 2, 3] rfl)
      · replace h := (if_neg cc).symm.trans h
        refine lv_aload_n hx hb dX12_putLine_47 rfl (lv_at hl 0 rfl) ?_
        refine lv_bipush (v := (32 : Int32)) hx hb dX12_putLine_48 (by decide) ?_
        obtain ⟨r14, qr14, h⟩ := ob h
        refine k_X12_put F qr14 q_1804 ⟨Nat.le_of_ble_eq_true rfl, Nat.le_of_ble_eq_true rfl, Nat.le_of_ble_eq_true rfl, Nat.le_of_ble_eq_true rfl⟩ hW hS hl.1 (Nat.le_of_ble_eq_true rfl) dX12_putLine_50 (fun H locs hW hS => ?_)
        exact wk_X12_putLine_53 F hr hk33 h hW hS (lv_sub hl [0, 1, 2, 3] rfl)
set_option maxHeartbeats 4000000 in
set_option maxRecDepth 100000 in
theorem wk_X12_putLine_9 {n : Nat} {a1 : Int32} {out : Mm} (F : FX (fg G) b RX12 cX12_putLine 4 p s m args meth c) (hr : meth.sig.returnType = none) : ∀ (f : Nat) (x2 : Int32) (x3 : Int32) (μ : Mm) (H : Heap) (locs : List Loc) (ls : Array Slot), sh_X12_putLine_9 n a1 f x2 x3 μ = some out → WH (fg G) b μ H → va_S (fb b) s.heap H locs → lv_has ls 4 [(0, .ref (b + 306)), (1, .int a1), (2, .int x2), (3, .int x3)] → W p l e ({ frames := 4, cells := 0, slots := 0, locals := 90 } : Room) s m args below meth c H locs 0 0 (MQ below (QW (fg G) b out none) args s 0 0 (fb b)) (F0 m 9 ls []) := by
  have hx := F.1
  have hb := F.2.1
  intro f
  induction f with
  | zero =>
    intro _ _ _ _ _ _ h
    rw [sh_X12_putLine_9] at h
    cases h
  | succ f ih =>
    intro x2 x3 μ H locs ls h hW hS hl
    rw [sh_X12_putLine_9] at h
    have hk9 := ih
    refine lv_iload_n hx hb dX12_putLine_9 rfl (lv_at hl 3 rfl) ?_
    refine lv_aload_n hx hb dX12_putLine_10 rfl (lv_at hl 0 rfl) ?_
    refine fl_get12 (v := .ref (b + 317)) kyf_306 F hW 28 (by decide) q_1499 rfl rfl dX12_putLine_11 ?_
    refine lv_iload_n hx hb dX12_putLine_14 rfl (lv_at hl 1 rfl) ?_
    obtain ⟨v2, qv2, h⟩ := ob h
    refine fm_iald kyf_317 F hW qv2 dX12_putLine_15 ?_
    refine lv_icmp_ge (tgt := 31) hx hb dX12_putLine_16 (by decide) (fun cc => ?_) (fun cc => ?_)
    · replace h := (if_pos cc).symm.trans h
      refine lv_iconst (v := (0 : Int32)) hx hb dX12_putLine_31 (by decide) ?_
      refine lv_istore_n (lv' := [(3, .int (0 : Int32)), (0, .ref (b + 306)), (1, .int a1), (2, .int x2)]) hx hb dX12_putLine_32 rfl hl (by decide) rfl (fun ls hl => ?_)
      exact wk_X12_putLine_33 F hr n _ _ _ _ _ _ h hW hS (lv_sub hl [1, 2, 3, 0] rfl)
    · replace h := (if_neg cc).symm.trans h
      refine lv_aload_n hx hb dX12_putLine_19 rfl (lv_at hl 0 rfl) ?_
      refine lv_bipush (v := (32 : Int32)) hx hb dX12_putLine_20 (by decide) ?_
      obtain ⟨r15, qr15, h⟩ := ob h
      refine k_X12_put F qr15 q_1804 ⟨Nat.le_of_ble_eq_true rfl, Nat.le_of_ble_eq_true rfl, Nat.le_of_ble_eq_true rfl, Nat.le_of_ble_eq_true rfl⟩ hW hS hl.1 (Nat.le_of_ble_eq_true rfl) dX12_putLine_22 (fun H locs hW hS => ?_)
      refine lv_iinc (v := (x3 + (1 : Int32))) (lv' := [(3, .int (x3 + (1 : Int32))), (0, .ref (b + 306)), (1, .int a1), (2, .int x2)]) hx hb dX12_putLine_25 hl (k := 3) rfl rfl (by decide) rfl (fun ls hl => ?_)
      refine lv_goto (tgt := 9) hx hb dX12_putLine_28 (by decide) ?_
      exact hk9 _ _ _ _ _ _ h hW hS (lv_sub hl [1, 2, 3, 0] rfl)
set_option maxHeartbeats 4000000 in
set_option maxRecDepth 100000 in
theorem wk_X12_putLine {n : Nat} {a1 : Int32} {μ : Mm} {out : Mm} (F : FX (fg G) b RX12 cX12_putLine 4 p s m args meth c) (hr : meth.sig.returnType = none) (h : sh_X12_putLine n a1 μ = some out) (hW : WH (fg G) b μ H) (hS : va_S (fb b) s.heap H locs) (hl : lv_has ls 4 [(0, .ref (b + 306)), (1, .int a1)]) : W p l e ({ frames := 4, cells := 0, slots := 0, locals := 90 } : Room) s m args below meth c H locs 0 0 (MQ below (QW (fg G) b out none) args s 0 0 (fb b)) (F0 m 0 ls []) := by
  have hx := F.1
  have hb := F.2.1
  unfold sh_X12_putLine at h
  refine lv_aload_n hx hb dX12_putLine_0 rfl (lv_at hl 0 rfl) ?_
  refine fl_get12 (v := .ref (b + 316)) kyf_306 F hW 27 (by decide) q_1498 rfl rfl dX12_putLine_1 ?_
  refine lv_iload_n hx hb dX12_putLine_4 rfl (lv_at hl 1 rfl) ?_
  obtain ⟨v1, qv1, h⟩ := ob h
  refine fm_iald kyf_316 F hW qv1 dX12_putLine_5 ?_
  refine lv_istore_n (lv' := [(2, .int v1), (0, .ref (b + 306)), (1, .int a1)]) hx hb dX12_putLine_6 rfl hl (by decide) rfl (fun ls hl => ?_)
  refine lv_iconst (v := (0 : Int32)) hx hb dX12_putLine_7 (by decide) ?_
  refine lv_istore_n (lv' := [(3, .int (0 : Int32)), (2, .int v1), (0, .ref (b + 306)), (1, .int a1)]) hx hb dX12_putLine_8 rfl hl (by decide) rfl (fun ls hl => ?_)
  exact wk_X12_putLine_9 F hr n _ _ _ _ _ _ h hW hS (lv_sub hl [2, 3, 1, 0] rfl)
set_option maxHeartbeats 4000000 in
set_option maxRecDepth 100000 in
theorem c_X12_putLine {l : Launch} {G : Gt} {b : Nat} {n : Nat} {a1 : Int32} {μ : Mm} {out : Mm} (h : sh_X12_putLine n a1 μ = some out) : Met l yX12_putLine (wU (Cond.code yX12_putLine cX12_putLine 4 none)) ({ frames := 4, cells := 0, slots := 0, locals := 90 } : Room) (PcW (fg G) b μ [.ref (b + 306), .int a1]) (QW (fg G) b out none) 0 0 (fb b) :=
  met_of [.ref (b + 306), .int a1] (by decide) (Nat.le_of_ble_eq_true rfl) (fun F hr hW hl => wk_X12_putLine F hr h hW va_S.rf hl)
set_option maxHeartbeats 4000000 in
set_option maxRecDepth 100000 in
theorem k_X12_putLine {own : String} {nL : Nat} (F : FX (fg G) b own cc nL p s m args meth c) {n : Nat} {a1 : Int32} {μ : Mm} {out : Mm} (h : sh_X12_putLine n a1 μ = some out) {index : Nat} (hl : Cond.methodLink own index yX12_putLine ∈ TBG) (hR : 4 + 1 ≤ R.frames ∧ 8 + (4 + 11) + 90 ≤ R.locals ∧ cells ≤ R.cells ∧ slots ≤ R.slots) (hW : WH (fg G) b μ H) (hS : va_S (fb b) s.heap H locs) (hsz : ls.size = nL) (hrest : (rest.map fun v => v.category).sum ≤ 8) (hdg : decode cc pc = .ok (.invokevirtual index, 3))
    (kk : ∀ (H1 : Heap) (locs1 : List Loc), WH (fg G) b out H1 → va_S (fb b) s.heap H1 locs1 → W p l e R s m args below meth c H1 locs1 cells slots Q (F0 m (pc + 3) ls (rest))) : W p l e R s m args below meth c H locs cells slots Q (F0 m pc ls (.int a1 :: .ref (b + 306) :: rest)) :=
  f_callV (As := [.int a1]) (ci := 12) (c_X12_putLine h) ⟨rfl, rfl⟩ rfl (ky_lm kyf_306 (by decide)) (wF_12 kyf_306) q_2100 qp_113 q_14 q_2101 rfl ⟨by decide +kernel, by decide +kernel, (show (parseMethodDescriptor yX12_putLine.desc).map (fun d => d.parameters.length) = some 1 by decide +kernel)⟩ F hl hR hW hS hsz hrest rfl hdg kk
set_option maxHeartbeats 4000000 in
set_option maxRecDepth 100000 in
theorem wk_X12_isAs_52 {n : Nat} {a1 : Int32} {a2 : Int32} {out : (Int32 × Mm)} (F : FX (fg G) b RX12 cX12_isAs 6 p s m args meth c) (hr : meth.sig.returnType = some .boolean) : ∀ (f : Nat) (x3 : Int32) (x4 : Int32) (x5 : Int32) (μ : Mm) (H : Heap) (locs : List Loc) (ls : Array Slot), sh_X12_isAs_52 n a1 a2 f x3 x4 x5 μ = some out → WH (fg G) b μ H → va_S (fb b) s.heap H locs → lv_has ls 6 [(0, .ref (b + 306)), (3, .int x3), (4, .int x4), (5, .int x5)] → W p l e ({ frames := 5, cells := 0, slots := 0, locals := 113 } : Room) s m args below meth c H locs 0 0 (MQ below (QW (fg G) b out.2 (some (.int out.1))) args s 0 0 (fb b)) (F0 m 52 ls []) := by
  have hx := F.1
  have hb := F.2.1
  intro f
  induction f with
  | zero =>
    intro _ _ _ _ _ _ _ h
    rw [sh_X12_isAs_52] at h
    cases h
  | succ f ih =>
    intro x3 x4 x5 μ H locs ls h hW hS hl
    rw [sh_X12_isAs_52] at h
    have hk52 := ih
    refine lv_iload hx hb dX12_isAs_52 (lv_at hl 3 rfl) ?_
    refine lv_aload_n hx hb dX12_isAs_54 rfl (lv_at hl 0 rfl) ?_
    refine fl_get12 (v := .int (μ.1 306 17)) kyf_306 F hW 17 (by decide) q_1488 rfl rfl dX12_isAs_55 ?_
    refine lv_icmp_ge (tgt := 102) hx hb dX12_isAs_58 (by decide) (fun cc => ?_) (fun cc => ?_)
    · replace h := (if_pos cc).symm.trans h
      refine lv_iload hx hb dX12_isAs_102 (lv_at hl 2 rfl) ?_
      obtain ⟨v5, qv5, h⟩ := ob h
      obtain ⟨zv5, qv5⟩ := isB_some qv5
      rw [qv5] at zv5
      rw [qv5]
      cases h
      exact r_bool F hr zv5 hW hS dX12_isAs_104
    · replace h := (if_neg cc).symm.trans h
      refine lv_iload hx hb dX12_isAs_61 (lv_at hl 2 rfl) ?_
      refine lv_if_eq (tgt := 102) hx hb dX12_isAs_63 (by decide) (fun cc => ?_) (fun cc => ?_)
      · replace h := (if_pos cc).symm.trans h
        refine lv_iload hx hb dX12_isAs_102 (lv_at hl 2 rfl) ?_
        obtain ⟨v6, qv6, h⟩ := ob h
        obtain ⟨zv6, qv6⟩ := isB_some qv6
        rw [qv6] at zv6
        rw [qv6]
        cases h
        exact r_bool F hr zv6 hW hS dX12_isAs_104
      · replace h := (if_neg cc).symm.trans h
        refine lv_aload_n hx hb dX12_isAs_66 rfl (lv_at hl 0 rfl) ?_
        refine fl_get12 (v := .ref (b + 307)) kyf_306 F hW 1 (by decide) q_1472 rfl rfl dX12_isAs_67 ?_
        refine lv_sipush (v := (2701 : Int32)) hx hb dX12_isAs_70 (by decide) ?_
        refine lv_iload_n hx hb dX12_isAs_73 rfl (lv_at hl 1 rfl) ?_
        refine lv_iadd hx hb dX12_isAs_74 ?_
        refine lv_iload hx hb dX12_isAs_75 (lv_at hl 3 rfl) ?_
        refine lv_iadd hx hb dX12_isAs_77 ?_
        obtain ⟨v7, qv7, h⟩ := ob h
        refine fm_iald kyf_307 F hW qv7 dX12_isAs_78 ?_
        refine lv_aload_n hx hb dX12_isAs_79 rfl (lv_at hl 0 rfl) ?_
        refine fl_get12 (v := .ref (b + 310)) kyf_306 F hW 16 (by decide) q_1487 rfl rfl dX12_isAs_80 ?_
        refine lv_iload hx hb dX12_isAs_83 (lv_at hl 3 rfl) ?_
        obtain ⟨v8, qv8, h⟩ := ob h
        refine fm_bald kyf_310 F hW qv8 dX12_isAs_85 ?_
        refine lv_icmp_ne (tgt := 93) hx hb dX12_isAs_86 (by decide) (fun cc => ?_) (fun cc => ?_)
        · replace h := (if_neg cc).symm.trans h
          refine lv_iconst (v := (0 : Int32)) hx hb dX12_isAs_93 (by decide) ?_
          refine lv_istore (lv' := [(4, .int (0 : Int32)), (0, .ref (b + 306)), (3, .int x3), (5, .int x5)]) hx hb dX12_isAs_94 hl (by decide) rfl (fun ls hl => ?_)
          refine lv_iinc (v := (x5 + (1 : Int32))) (lv' := [(5, .int (x5 + (1 : Int32))), (4, .int (0 : Int32)), (0, .ref (b + 306)), (3, .int x3)]) hx hb dX12_isAs_96 hl (k := 3) rfl rfl (by decide) rfl (fun ls hl => ?_)
          refine lv_goto (tgt := 52) hx hb dX12_isAs_99 (by decide) ?_
          exact hk52 _ _ _ _ _ _ _ h hW hS (lv_sub hl [2, 3, 1, 0] rfl)
        · replace h := (if_pos cc).symm.trans h
          refine lv_iconst (v := (1 : Int32)) hx hb dX12_isAs_89 (by decide) ?_
          refine lv_goto (tgt := 94) hx hb dX12_isAs_90 (by decide) ?_
          refine lv_istore (lv' := [(4, .int (1 : Int32)), (0, .ref (b + 306)), (3, .int x3), (5, .int x5)]) hx hb dX12_isAs_94 hl (by decide) rfl (fun ls hl => ?_)
          refine lv_iinc (v := (x5 + (1 : Int32))) (lv' := [(5, .int (x5 + (1 : Int32))), (4, .int (1 : Int32)), (0, .ref (b + 306)), (3, .int x3)]) hx hb dX12_isAs_96 hl (k := 3) rfl rfl (by decide) rfl (fun ls hl => ?_)
          refine lv_goto (tgt := 52) hx hb dX12_isAs_99 (by decide) ?_
          exact hk52 _ _ _ _ _ _ _ h hW hS (lv_sub hl [2, 3, 1, 0] rfl)
set_option maxHeartbeats 4000000 in
set_option maxRecDepth 100000 in
theorem wk_X12_isAs {n : Nat} {a1 : Int32} {a2 : Int32} {μ : Mm} {out : (Int32 × Mm)} (F : FX (fg G) b RX12 cX12_isAs 6 p s m args meth c) (hr : meth.sig.returnType = some .boolean) (h : sh_X12_isAs n a1 a2 μ = some out) (hW : WH (fg G) b μ H) (hS : va_S (fb b) s.heap H locs) (hl : lv_has ls 6 [(0, .ref (b + 306)), (1, .int a1), (2, .int a2)]) : W p l e ({ frames := 5, cells := 0, slots := 0, locals := 113 } : Room) s m args below meth c H locs 0 0 (MQ below (QW (fg G) b out.2 (some (.int out.1))) args s 0 0 (fb b)) (F0 m 0 ls []) := by
  have hx := F.1
  have hb := F.2.1
  unfold sh_X12_isAs at h
  refine lv_aload_n hx hb dX12_isAs_0 rfl (lv_at hl 0 rfl) ?_
  refine lv_iconst (v := (0 : Int32)) hx hb dX12_isAs_1 (by decide) ?_
  obtain ⟨μ1, hmμ1, h⟩ := ob h
  refine fl_put12_17 kyf_306 F hW hS q_1488 hmμ1 dX12_isAs_2 (fun H locs hW hS => ?_)
  refine lv_aload_n hx hb dX12_isAs_5 rfl (lv_at hl 0 rfl) ?_
  refine lv_iload_n hx hb dX12_isAs_6 rfl (lv_at hl 1 rfl) ?_
  obtain ⟨r2, qr2, h⟩ := ob h
  refine k_X12_putLine F qr2 q_2098 ⟨Nat.le_of_ble_eq_true rfl, Nat.le_of_ble_eq_true rfl, Nat.le_of_ble_eq_true rfl, Nat.le_of_ble_eq_true rfl⟩ hW hS hl.1 (Nat.le_of_ble_eq_true rfl) dX12_isAs_7 (fun H locs hW hS => ?_)
  refine lv_aload_n hx hb dX12_isAs_10 rfl (lv_at hl 0 rfl) ?_
  refine fl_get12 (v := .ref (b + 307)) kyf_306 F hW 1 (by decide) q_1472 rfl rfl dX12_isAs_11 ?_
  refine lv_sipush (v := (2460 : Int32)) hx hb dX12_isAs_14 (by decide) ?_
  refine lv_iload_n hx hb dX12_isAs_17 rfl (lv_at hl 2 rfl) ?_
  refine lv_iadd hx hb dX12_isAs_18 ?_
  obtain ⟨v3, qv3, h⟩ := ob h
  refine fm_iald kyf_307 F hW qv3 dX12_isAs_19 ?_
  refine lv_istore_n (lv' := [(3, .int v3), (0, .ref (b + 306)), (1, .int a1), (2, .int a2)]) hx hb dX12_isAs_20 rfl hl (by decide) rfl (fun ls hl => ?_)
  refine lv_aload_n hx hb dX12_isAs_21 rfl (lv_at hl 1 rfl) ?_
  refine fl_get12 (v := .ref (b + 307)) kyf_306 F hW 1 (by decide) q_1472 rfl rfl dX12_isAs_22 ?_
  refine lv_sipush (v := (2460 : Int32)) hx hb dX12_isAs_25 (by decide) ?_
  refine lv_iload_n hx hb dX12_isAs_28 rfl (lv_at hl 3 rfl) ?_
  refine lv_iadd hx hb dX12_isAs_29 ?_
  refine lv_iconst (v := (1 : Int32)) hx hb dX12_isAs_30 (by decide) ?_
  refine lv_iadd hx hb dX12_isAs_31 ?_
  obtain ⟨v4, qv4, h⟩ := ob h
  refine fm_iald kyf_307 F hW qv4 dX12_isAs_32 ?_
  refine lv_iload_n hx hb dX12_isAs_33 rfl (lv_at hl 0 rfl) ?_
  refine lv_isub hx hb dX12_isAs_34 ?_
  refine lv_aload_n hx hb dX12_isAs_35 rfl (lv_at hl 1 rfl) ?_
  refine fl_get12 (v := .int (r2.1 306 17)) kyf_306 F hW 17 (by decide) q_1488 rfl rfl dX12_isAs_36 ?_
  refine lv_icmp_ne (tgt := 46) hx hb dX12_isAs_39 (by decide) (fun cc => ?_) (fun cc => ?_)
  · replace h := (if_neg cc).symm.trans h
    refine lv_iconst (v := (0 : Int32)) hx hb dX12_isAs_46 (by decide) ?_
    refine lv_istore (lv' := [(4, .int (0 : Int32)), (3, .int v3), (0, .ref (b + 306)), (1, .int a1), (2, .int a2)]) hx hb dX12_isAs_47 hl (by decide) rfl (fun ls hl => ?_)
    refine lv_iconst (v := (0 : Int32)) hx hb dX12_isAs_49 (by decide) ?_
    refine lv_istore (lv' := [(5, .int (0 : Int32)), (4, .int (0 : Int32)), (3, .int v3), (0, .ref (b + 306)), (1, .int a1), (2, .int a2)]) hx hb dX12_isAs_50 hl (by decide) rfl (fun ls hl => ?_)
    exact wk_X12_isAs_52 F hr n _ _ _ _ _ _ _ h hW hS (lv_sub hl [3, 2, 1, 0] rfl)
  · replace h := (if_pos cc).symm.trans h
    refine lv_iconst (v := (1 : Int32)) hx hb dX12_isAs_42 (by decide) ?_
    refine lv_goto (tgt := 47) hx hb dX12_isAs_43 (by decide) ?_
    refine lv_istore (lv' := [(4, .int (1 : Int32)), (3, .int v3), (0, .ref (b + 306)), (1, .int a1), (2, .int a2)]) hx hb dX12_isAs_47 hl (by decide) rfl (fun ls hl => ?_)
    refine lv_iconst (v := (0 : Int32)) hx hb dX12_isAs_49 (by decide) ?_
    refine lv_istore (lv' := [(5, .int (0 : Int32)), (4, .int (1 : Int32)), (3, .int v3), (0, .ref (b + 306)), (1, .int a1), (2, .int a2)]) hx hb dX12_isAs_50 hl (by decide) rfl (fun ls hl => ?_)
    exact wk_X12_isAs_52 F hr n _ _ _ _ _ _ _ h hW hS (lv_sub hl [3, 2, 1, 0] rfl)
set_option maxHeartbeats 4000000 in
set_option maxRecDepth 100000 in
theorem c_X12_isAs {l : Launch} {G : Gt} {b : Nat} {n : Nat} {a1 : Int32} {a2 : Int32} {μ : Mm} {out : (Int32 × Mm)} (h : sh_X12_isAs n a1 a2 μ = some out) : Met l yX12_isAs (wU (Cond.code yX12_isAs cX12_isAs 6 (some .boolean))) ({ frames := 5, cells := 0, slots := 0, locals := 113 } : Room) (PcW (fg G) b μ [.ref (b + 306), .int a1, .int a2]) (QW (fg G) b out.2 (some (.int out.1))) 0 0 (fb b) :=
  met_of [.ref (b + 306), .int a1, .int a2] (by decide) (Nat.le_of_ble_eq_true rfl) (fun F hr hW hl => wk_X12_isAs F hr h hW va_S.rf hl)
set_option maxHeartbeats 4000000 in
set_option maxRecDepth 100000 in
theorem k_X12_isAs {own : String} {nL : Nat} (F : FX (fg G) b own cc nL p s m args meth c) {n : Nat} {a1 : Int32} {a2 : Int32} {μ : Mm} {out : (Int32 × Mm)} (h : sh_X12_isAs n a1 a2 μ = some out) {index : Nat} (hl : Cond.methodLink own index yX12_isAs ∈ TBG) (hR : 5 + 1 ≤ R.frames ∧ 8 + (6 + 11) + 113 ≤ R.locals ∧ cells ≤ R.cells ∧ slots ≤ R.slots) (hW : WH (fg G) b μ H) (hS : va_S (fb b) s.heap H locs) (hsz : ls.size = nL) (hrest : (rest.map fun v => v.category).sum ≤ 8) (hdg : decode cc pc = .ok (.invokevirtual index, 3))
    (kk : ∀ (H1 : Heap) (locs1 : List Loc), WH (fg G) b out.2 H1 → va_S (fb b) s.heap H1 locs1 → W p l e R s m args below meth c H1 locs1 cells slots Q (F0 m (pc + 3) ls (.int out.1 :: rest))) : W p l e R s m args below meth c H locs cells slots Q (F0 m pc ls (.int a2 :: .int a1 :: .ref (b + 306) :: rest)) :=
  f_callV (As := [.int a1, .int a2]) (ci := 12) (c_X12_isAs h) ⟨rfl, rfl⟩ rfl (ky_lm kyf_306 (by decide)) (wF_12 kyf_306) q_2096 qp_112 q_14 q_2097 rfl ⟨by decide +kernel, by decide +kernel, (show (parseMethodDescriptor yX12_isAs.desc).map (fun d => d.parameters.length) = some 2 by decide +kernel)⟩ F hl hR hW hS hsz hrest rfl hdg kk
set_option maxHeartbeats 4000000 in
set_option maxRecDepth 100000 in
theorem wk_X12_mustBeRead_40 {n : Nat} {a1 : Int32} {out : (Int32 × Mm)} (F : FX (fg G) b RX12 cX12_mustBeRead 4 p s m args meth c) (hr : meth.sig.returnType = some .boolean) : ∀ (f : Nat) (x2 : Int32) (x3 : Int32) (μ : Mm) (H : Heap) (locs : List Loc) (ls : Array Slot), sh_X12_mustBeRead_40 n a1 f x2 x3 μ = some out → WH (fg G) b μ H → va_S (fb b) s.heap H locs → lv_has ls 4 [(0, .ref (b + 306)), (1, .int a1), (2, .int x2), (3, .int x3)] → W p l e ({ frames := 6, cells := 0, slots := 0, locals := 138 } : Room) s m args below meth c H locs 0 0 (MQ below (QW (fg G) b out.2 (some (.int out.1))) args s 0 0 (fb b)) (F0 m 40 ls []) := by
  have hx := F.1
  have hb := F.2.1
  intro f
  induction f with
  | zero =>
    intro _ _ _ _ _ _ h
    rw [sh_X12_mustBeRead_40] at h
    cases h
  | succ f ih =>
    intro x2 x3 μ H locs ls h hW hS hl
    rw [sh_X12_mustBeRead_40] at h
    have hk40 := ih
    refine lv_iload_n hx hb dX12_mustBeRead_40 rfl (lv_at hl 3 rfl) ?_
    refine lv_aload_n hx hb dX12_mustBeRead_41 rfl (lv_at hl 0 rfl) ?_
    refine lv_iload_n hx hb dX12_mustBeRead_42 rfl (lv_at hl 1 rfl) ?_
    obtain ⟨r5, qr5, h⟩ := ob h
    refine k_X12_linesOf F qr5 q_1929 ⟨Nat.le_of_ble_eq_true rfl, Nat.le_of_ble_eq_true rfl, Nat.le_of_ble_eq_true rfl, Nat.le_of_ble_eq_true rfl⟩ hW hS hl.1 (Nat.le_of_ble_eq_true rfl) dX12_mustBeRead_43 (fun H locs hW hS => ?_)
    refine lv_icmp_ge (tgt := 88) hx hb dX12_mustBeRead_46 (by decide) (fun cc => ?_) (fun cc => ?_)
    · replace h := (if_pos cc).symm.trans h
      refine lv_iload_n hx hb dX12_mustBeRead_88 rfl (lv_at hl 2 rfl) ?_
      refine lv_if_ne (tgt := 96) hx hb dX12_mustBeRead_89 (by decide) (fun cc => ?_) (fun cc => ?_)
      · replace h := (if_neg cc).symm.trans h
        refine lv_iconst (v := (0 : Int32)) hx hb dX12_mustBeRead_96 (by decide) ?_
        cases h
        exact r_bool F hr (Or.inl rfl) hW hS dX12_mustBeRead_97
      · replace h := (if_pos cc).symm.trans h
        refine lv_iconst (v := (1 : Int32)) hx hb dX12_mustBeRead_92 (by decide) ?_
        refine lv_goto (tgt := 97) hx hb dX12_mustBeRead_93 (by decide) ?_
        cases h
        exact r_bool F hr (Or.inr rfl) hW hS dX12_mustBeRead_97
    · replace h := (if_neg cc).symm.trans h
      refine lv_iload_n hx hb dX12_mustBeRead_49 rfl (lv_at hl 2 rfl) ?_
      refine lv_if_eq (tgt := 80) hx hb dX12_mustBeRead_50 (by decide) (fun cc => ?_) (fun cc => ?_)
      · replace h := (if_pos cc).symm.trans h
        refine lv_iconst (v := (0 : Int32)) hx hb dX12_mustBeRead_80 (by decide) ?_
        refine lv_istore_n (lv' := [(2, .int (0 : Int32)), (0, .ref (b + 306)), (1, .int a1), (3, .int x3)]) hx hb dX12_mustBeRead_81 rfl hl (by decide) rfl (fun ls hl => ?_)
        refine lv_iinc (v := (x3 + (1 : Int32))) (lv' := [(3, .int (x3 + (1 : Int32))), (2, .int (0 : Int32)), (0, .ref (b + 306)), (1, .int a1)]) hx hb dX12_mustBeRead_82 hl (k := 3) rfl rfl (by decide) rfl (fun ls hl => ?_)
        refine lv_goto (tgt := 40) hx hb dX12_mustBeRead_85 (by decide) ?_
        exact hk40 _ _ _ _ _ _ h hW hS (lv_sub hl [2, 3, 1, 0] rfl)
      · replace h := (if_neg cc).symm.trans h
        refine lv_aload_n hx hb dX12_mustBeRead_53 rfl (lv_at hl 0 rfl) ?_
        refine lv_aload_n hx hb dX12_mustBeRead_54 rfl (lv_at hl 0 rfl) ?_
        refine fl_get12 (v := .ref (b + 324)) kyf_306 F hW 35 (by decide) q_1506 rfl rfl dX12_mustBeRead_55 ?_
        refine lv_iload_n hx hb dX12_mustBeRead_58 rfl (lv_at hl 1 rfl) ?_
        obtain ⟨v6, qv6, h⟩ := ob h
        refine fm_iald kyf_324 F hW qv6 dX12_mustBeRead_59 ?_
        refine lv_iload_n hx hb dX12_mustBeRead_60 rfl (lv_at hl 3 rfl) ?_
        refine lv_iadd hx hb dX12_mustBeRead_61 ?_
        refine lv_aload_n hx hb dX12_mustBeRead_62 rfl (lv_at hl 0 rfl) ?_
        refine lv_iload_n hx hb dX12_mustBeRead_63 rfl (lv_at hl 1 rfl) ?_
        refine lv_iconst (v := (4 : Int32)) hx hb dX12_mustBeRead_64 (by decide) ?_
        obtain ⟨r7, qr7, h⟩ := ob h
        refine k_X12_of F qr7 q_1735 ⟨Nat.le_of_ble_eq_true rfl, Nat.le_of_ble_eq_true rfl, Nat.le_of_ble_eq_true rfl, Nat.le_of_ble_eq_true rfl⟩ hW hS hl.1 (Nat.le_of_ble_eq_true rfl) dX12_mustBeRead_65 (fun H locs hW hS => ?_)
        refine lv_iload_n hx hb dX12_mustBeRead_68 rfl (lv_at hl 3 rfl) ?_
        refine lv_iadd hx hb dX12_mustBeRead_69 ?_
        obtain ⟨r8, qr8, h⟩ := ob h
        refine k_X12_isAs F qr8 q_2094 ⟨Nat.le_of_ble_eq_true rfl, Nat.le_of_ble_eq_true rfl, Nat.le_of_ble_eq_true rfl, Nat.le_of_ble_eq_true rfl⟩ hW hS hl.1 (Nat.le_of_ble_eq_true rfl) dX12_mustBeRead_70 (fun H locs hW hS => ?_)
        refine lv_if_eq (tgt := 80) hx hb dX12_mustBeRead_73 (by decide) (fun cc => ?_) (fun cc => ?_)
        · replace h := (if_pos cc).symm.trans h
          refine lv_iconst (v := (0 : Int32)) hx hb dX12_mustBeRead_80 (by decide) ?_
          refine lv_istore_n (lv' := [(2, .int (0 : Int32)), (0, .ref (b + 306)), (1, .int a1), (3, .int x3)]) hx hb dX12_mustBeRead_81 rfl hl (by decide) rfl (fun ls hl => ?_)
          refine lv_iinc (v := (x3 + (1 : Int32))) (lv' := [(3, .int (x3 + (1 : Int32))), (2, .int (0 : Int32)), (0, .ref (b + 306)), (1, .int a1)]) hx hb dX12_mustBeRead_82 hl (k := 3) rfl rfl (by decide) rfl (fun ls hl => ?_)
          refine lv_goto (tgt := 40) hx hb dX12_mustBeRead_85 (by decide) ?_
          exact hk40 _ _ _ _ _ _ h hW hS (lv_sub hl [2, 3, 1, 0] rfl)
        · replace h := (if_neg cc).symm.trans h
          refine lv_iconst (v := (1 : Int32)) hx hb dX12_mustBeRead_76 (by decide) ?_
          refine lv_goto (tgt := 81) hx hb dX12_mustBeRead_77 (by decide) ?_
          refine lv_istore_n (lv' := [(2, .int (1 : Int32)), (0, .ref (b + 306)), (1, .int a1), (3, .int x3)]) hx hb dX12_mustBeRead_81 rfl hl (by decide) rfl (fun ls hl => ?_)
          refine lv_iinc (v := (x3 + (1 : Int32))) (lv' := [(3, .int (x3 + (1 : Int32))), (2, .int (1 : Int32)), (0, .ref (b + 306)), (1, .int a1)]) hx hb dX12_mustBeRead_82 hl (k := 3) rfl rfl (by decide) rfl (fun ls hl => ?_)
          refine lv_goto (tgt := 40) hx hb dX12_mustBeRead_85 (by decide) ?_
          exact hk40 _ _ _ _ _ _ h hW hS (lv_sub hl [2, 3, 1, 0] rfl)
set_option maxHeartbeats 4000000 in
set_option maxRecDepth 100000 in
theorem wk_X12_mustBeRead {n : Nat} {a1 : Int32} {μ : Mm} {out : (Int32 × Mm)} (F : FX (fg G) b RX12 cX12_mustBeRead 4 p s m args meth c) (hr : meth.sig.returnType = some .boolean) (h : sh_X12_mustBeRead n a1 μ = some out) (hW : WH (fg G) b μ H) (hS : va_S (fb b) s.heap H locs) (hl : lv_has ls 4 [(0, .ref (b + 306)), (1, .int a1)]) : W p l e ({ frames := 6, cells := 0, slots := 0, locals := 138 } : Room) s m args below meth c H locs 0 0 (MQ below (QW (fg G) b out.2 (some (.int out.1))) args s 0 0 (fb b)) (F0 m 0 ls []) := by
  have hx := F.1
  have hb := F.2.1
  unfold sh_X12_mustBeRead at h
  refine lv_aload_n hx hb dX12_mustBeRead_0 rfl (lv_at hl 0 rfl) ?_
  refine fl_get12 (v := .ref (b + 307)) kyf_306 F hW 1 (by decide) q_1472 rfl rfl dX12_mustBeRead_1 ?_
  refine lv_bipush (v := (10 : Int32)) hx hb dX12_mustBeRead_4 (by decide) ?_
  obtain ⟨v1, qv1, h⟩ := ob h
  refine fm_iald kyf_307 F hW qv1 dX12_mustBeRead_6 ?_
  refine lv_if_eq (tgt := 34) hx hb dX12_mustBeRead_7 (by decide) (fun cc => ?_) (fun cc => ?_)
  · replace h := (if_pos cc).symm.trans h
    refine lv_iconst (v := (1 : Int32)) hx hb dX12_mustBeRead_34 (by decide) ?_
    cases h
    exact r_bool F hr (Or.inr rfl) hW hS dX12_mustBeRead_35
  · replace h := (if_neg cc).symm.trans h
    refine lv_aload_n hx hb dX12_mustBeRead_10 rfl (lv_at hl 0 rfl) ?_
    refine lv_iload_n hx hb dX12_mustBeRead_11 rfl (lv_at hl 1 rfl) ?_
    refine lv_iconst (v := (4 : Int32)) hx hb dX12_mustBeRead_12 (by decide) ?_
    obtain ⟨r2, qr2, h⟩ := ob h
    refine k_X12_of F qr2 q_1735 ⟨Nat.le_of_ble_eq_true rfl, Nat.le_of_ble_eq_true rfl, Nat.le_of_ble_eq_true rfl, Nat.le_of_ble_eq_true rfl⟩ hW hS hl.1 (Nat.le_of_ble_eq_true rfl) dX12_mustBeRead_13 (fun H locs hW hS => ?_)
    refine lv_iconst (v := (-1 : Int32)) hx hb dX12_mustBeRead_16 (by decide) ?_
    refine lv_icmp_eq (tgt := 34) hx hb dX12_mustBeRead_17 (by decide) (fun cc => ?_) (fun cc => ?_)
    · replace h := (if_pos cc).symm.trans h
      refine lv_iconst (v := (1 : Int32)) hx hb dX12_mustBeRead_34 (by decide) ?_
      cases h
      exact r_bool F hr (Or.inr rfl) hW hS dX12_mustBeRead_35
    · replace h := (if_neg cc).symm.trans h
      refine lv_aload_n hx hb dX12_mustBeRead_20 rfl (lv_at hl 0 rfl) ?_
      refine lv_iload_n hx hb dX12_mustBeRead_21 rfl (lv_at hl 1 rfl) ?_
      refine lv_iconst (v := (5 : Int32)) hx hb dX12_mustBeRead_22 (by decide) ?_
      obtain ⟨r3, qr3, h⟩ := ob h
      refine k_X12_of F qr3 q_1735 ⟨Nat.le_of_ble_eq_true rfl, Nat.le_of_ble_eq_true rfl, Nat.le_of_ble_eq_true rfl, Nat.le_of_ble_eq_true rfl⟩ hW hS hl.1 (Nat.le_of_ble_eq_true rfl) dX12_mustBeRead_23 (fun H locs hW hS => ?_)
      refine lv_aload_n hx hb dX12_mustBeRead_26 rfl (lv_at hl 0 rfl) ?_
      refine lv_iload_n hx hb dX12_mustBeRead_27 rfl (lv_at hl 1 rfl) ?_
      obtain ⟨r4, qr4, h⟩ := ob h
      refine k_X12_linesOf F qr4 q_1929 ⟨Nat.le_of_ble_eq_true rfl, Nat.le_of_ble_eq_true rfl, Nat.le_of_ble_eq_true rfl, Nat.le_of_ble_eq_true rfl⟩ hW hS hl.1 (Nat.le_of_ble_eq_true rfl) dX12_mustBeRead_28 (fun H locs hW hS => ?_)
      refine lv_icmp_eq (tgt := 36) hx hb dX12_mustBeRead_31 (by decide) (fun cc => ?_) (fun cc => ?_)
      · replace h := (if_pos cc).symm.trans h
        refine lv_iconst (v := (1 : Int32)) hx hb dX12_mustBeRead_36 (by decide) ?_
        refine lv_istore_n (lv' := [(2, .int (1 : Int32)), (0, .ref (b + 306)), (1, .int a1)]) hx hb dX12_mustBeRead_37 rfl hl (by decide) rfl (fun ls hl => ?_)
        refine lv_iconst (v := (0 : Int32)) hx hb dX12_mustBeRead_38 (by decide) ?_
        refine lv_istore_n (lv' := [(3, .int (0 : Int32)), (2, .int (1 : Int32)), (0, .ref (b + 306)), (1, .int a1)]) hx hb dX12_mustBeRead_39 rfl hl (by decide) rfl (fun ls hl => ?_)
        exact wk_X12_mustBeRead_40 F hr n _ _ _ _ _ _ h hW hS (lv_sub hl [2, 3, 1, 0] rfl)
      · replace h := (if_neg cc).symm.trans h
        refine lv_iconst (v := (1 : Int32)) hx hb dX12_mustBeRead_34 (by decide) ?_
        cases h
        exact r_bool F hr (Or.inr rfl) hW hS dX12_mustBeRead_35
set_option maxHeartbeats 4000000 in
set_option maxRecDepth 100000 in
theorem c_X12_mustBeRead {l : Launch} {G : Gt} {b : Nat} {n : Nat} {a1 : Int32} {μ : Mm} {out : (Int32 × Mm)} (h : sh_X12_mustBeRead n a1 μ = some out) : Met l yX12_mustBeRead (wU (Cond.code yX12_mustBeRead cX12_mustBeRead 4 (some .boolean))) ({ frames := 6, cells := 0, slots := 0, locals := 138 } : Room) (PcW (fg G) b μ [.ref (b + 306), .int a1]) (QW (fg G) b out.2 (some (.int out.1))) 0 0 (fb b) :=
  met_of [.ref (b + 306), .int a1] (by decide) (Nat.le_of_ble_eq_true rfl) (fun F hr hW hl => wk_X12_mustBeRead F hr h hW va_S.rf hl)
set_option maxHeartbeats 4000000 in
set_option maxRecDepth 100000 in
theorem k_X12_mustBeRead {own : String} {nL : Nat} (F : FX (fg G) b own cc nL p s m args meth c) {n : Nat} {a1 : Int32} {μ : Mm} {out : (Int32 × Mm)} (h : sh_X12_mustBeRead n a1 μ = some out) {index : Nat} (hl : Cond.methodLink own index yX12_mustBeRead ∈ TBG) (hR : 6 + 1 ≤ R.frames ∧ 8 + (4 + 11) + 138 ≤ R.locals ∧ cells ≤ R.cells ∧ slots ≤ R.slots) (hW : WH (fg G) b μ H) (hS : va_S (fb b) s.heap H locs) (hsz : ls.size = nL) (hrest : (rest.map fun v => v.category).sum ≤ 8) (hdg : decode cc pc = .ok (.invokevirtual index, 3))
    (kk : ∀ (H1 : Heap) (locs1 : List Loc), WH (fg G) b out.2 H1 → va_S (fb b) s.heap H1 locs1 → W p l e R s m args below meth c H1 locs1 cells slots Q (F0 m (pc + 3) ls (.int out.1 :: rest))) : W p l e R s m args below meth c H locs cells slots Q (F0 m pc ls (.int a1 :: .ref (b + 306) :: rest)) :=
  f_callV (As := [.int a1]) (ci := 12) (c_X12_mustBeRead h) ⟨rfl, rfl⟩ rfl (ky_lm kyf_306 (by decide)) (wF_12 kyf_306) q_2092 qp_111 q_14 q_2093 rfl ⟨by decide +kernel, by decide +kernel, (show (parseMethodDescriptor yX12_mustBeRead.desc).map (fun d => d.parameters.length) = some 1 by decide +kernel)⟩ F hl hR hW hS hsz hrest rfl hdg kk
set_option maxHeartbeats 4000000 in
set_option maxRecDepth 100000 in
theorem wk_X12_readSet_8 {n : Nat} {out : (Int32 × Mm)} (F : FX (fg G) b RX12 cX12_readSet 3 p s m args meth c) (hr : meth.sig.returnType = some .int) : ∀ (f : Nat) (x1 : Int32) (x2 : Int32) (μ : Mm) (H : Heap) (locs : List Loc) (ls : Array Slot), sh_X12_readSet_8 n f x1 x2 μ = some out → WH (fg G) b μ H → va_S (fb b) s.heap H locs → lv_has ls 3 [(0, .ref (b + 306)), (1, .int x1), (2, .int x2)] → W p l e ({ frames := 9, cells := 0, slots := 0, locals := 205 } : Room) s m args below meth c H locs 0 0 (MQ below (QW (fg G) b out.2 (some (.int out.1))) args s 0 0 (fb b)) (F0 m 8 ls []) := by
  have hx := F.1
  have hb := F.2.1
  intro f
  induction f with
  | zero =>
    intro _ _ _ _ _ _ h
    rw [sh_X12_readSet_8] at h
    cases h
  | succ f ih =>
    intro x1 x2 μ H locs ls h hW hS hl
    rw [sh_X12_readSet_8] at h
    have hk8 := ih
    refine lv_iload_n hx hb dX12_readSet_8 rfl (lv_at hl 2 rfl) ?_
    refine lv_aload_n hx hb dX12_readSet_9 rfl (lv_at hl 0 rfl) ?_
    refine fl_get12 (v := .ref (b + 307)) kyf_306 F hW 1 (by decide) q_1472 rfl rfl dX12_readSet_10 ?_
    refine lv_bipush (v := (9 : Int32)) hx hb dX12_readSet_13 (by decide) ?_
    obtain ⟨v2, qv2, h⟩ := ob h
    refine fm_iald kyf_307 F hW qv2 dX12_readSet_15 ?_
    refine lv_icmp_ge (tgt := 43) hx hb dX12_readSet_16 (by decide) (fun cc => ?_) (fun cc => ?_)
    · replace h := (if_pos cc).symm.trans h
      refine lv_iload_n hx hb dX12_readSet_43 rfl (lv_at hl 1 rfl) ?_
      cases h
      exact r_int F hr hW hS dX12_readSet_44
    · replace h := (if_neg cc).symm.trans h
      refine lv_iload_n hx hb dX12_readSet_19 rfl (lv_at hl 1 rfl) ?_
      refine lv_aload_n hx hb dX12_readSet_20 rfl (lv_at hl 0 rfl) ?_
      refine lv_iload_n hx hb dX12_readSet_21 rfl (lv_at hl 2 rfl) ?_
      obtain ⟨r3, qr3, h⟩ := ob h
      refine k_X12_mustBeRead F qr3 q_2090 ⟨Nat.le_of_ble_eq_true rfl, Nat.le_of_ble_eq_true rfl, Nat.le_of_ble_eq_true rfl, Nat.le_of_ble_eq_true rfl⟩ hW hS hl.1 (Nat.le_of_ble_eq_true rfl) dX12_readSet_22 (fun H locs hW hS => ?_)
      refine lv_if_eq (tgt := 34) hx hb dX12_readSet_25 (by decide) (fun cc => ?_) (fun cc => ?_)
      · replace h := (if_pos cc).symm.trans h
        refine lv_iconst (v := (0 : Int32)) hx hb dX12_readSet_34 (by decide) ?_
        refine lv_ior hx hb dX12_readSet_35 ?_
        obtain ⟨v4, ev4⟩ : ∃ y, y = (x1 ||| (0 : Int32)) := ⟨_, rfl⟩
        have h := nm_at ev4 h
        rw [← ev4]
        refine lv_istore_n (lv' := [(1, .int v4), (0, .ref (b + 306)), (2, .int x2)]) hx hb dX12_readSet_36 rfl hl (by decide) rfl (fun ls hl => ?_)
        refine lv_iinc (v := (x2 + (1 : Int32))) (lv' := [(2, .int (x2 + (1 : Int32))), (1, .int v4), (0, .ref (b + 306))]) hx hb dX12_readSet_37 hl (k := 2) rfl rfl (by decide) rfl (fun ls hl => ?_)
        refine lv_goto (tgt := 8) hx hb dX12_readSet_40 (by decide) ?_
        exact hk8 _ _ _ _ _ _ h hW hS (lv_sub hl [2, 1, 0] rfl)
      · replace h := (if_neg cc).symm.trans h
        refine lv_iconst (v := (1 : Int32)) hx hb dX12_readSet_28 (by decide) ?_
        refine lv_iload_n hx hb dX12_readSet_29 rfl (lv_at hl 2 rfl) ?_
        refine lv_ishl hx hb dX12_readSet_30 ?_
        refine lv_goto (tgt := 35) hx hb dX12_readSet_31 (by decide) ?_
        refine lv_ior hx hb dX12_readSet_35 ?_
        obtain ⟨v5, ev5⟩ : ∃ y, y = (x1 ||| ((1 : Int32) <<< (x2 &&& 31))) := ⟨_, rfl⟩
        have h := nm_at ev5 h
        rw [← ev5]
        refine lv_istore_n (lv' := [(1, .int v5), (0, .ref (b + 306)), (2, .int x2)]) hx hb dX12_readSet_36 rfl hl (by decide) rfl (fun ls hl => ?_)
        refine lv_iinc (v := (x2 + (1 : Int32))) (lv' := [(2, .int (x2 + (1 : Int32))), (1, .int v5), (0, .ref (b + 306))]) hx hb dX12_readSet_37 hl (k := 2) rfl rfl (by decide) rfl (fun ls hl => ?_)
        refine lv_goto (tgt := 8) hx hb dX12_readSet_40 (by decide) ?_
        exact hk8 _ _ _ _ _ _ h hW hS (lv_sub hl [2, 1, 0] rfl)
set_option maxHeartbeats 4000000 in
set_option maxRecDepth 100000 in
theorem wk_X12_readSet {n : Nat} {μ : Mm} {out : (Int32 × Mm)} (F : FX (fg G) b RX12 cX12_readSet 3 p s m args meth c) (hr : meth.sig.returnType = some .int) (h : sh_X12_readSet n  μ = some out) (hW : WH (fg G) b μ H) (hS : va_S (fb b) s.heap H locs) (hl : lv_has ls 3 [(0, .ref (b + 306))]) : W p l e ({ frames := 9, cells := 0, slots := 0, locals := 205 } : Room) s m args below meth c H locs 0 0 (MQ below (QW (fg G) b out.2 (some (.int out.1))) args s 0 0 (fb b)) (F0 m 0 ls []) := by
  have hx := F.1
  have hb := F.2.1
  unfold sh_X12_readSet at h
  refine lv_aload_n hx hb dX12_readSet_0 rfl (lv_at hl 0 rfl) ?_
  obtain ⟨r1, qr1, h⟩ := ob h
  refine k_X12_lay F qr1 q_1764 ⟨Nat.le_of_ble_eq_true rfl, Nat.le_of_ble_eq_true rfl, Nat.le_of_ble_eq_true rfl, Nat.le_of_ble_eq_true rfl⟩ hW hS hl.1 (Nat.le_of_ble_eq_true rfl) dX12_readSet_1 (fun H locs hW hS => ?_)
  refine lv_iconst (v := (0 : Int32)) hx hb dX12_readSet_4 (by decide) ?_
  refine lv_istore_n (lv' := [(1, .int (0 : Int32)), (0, .ref (b + 306))]) hx hb dX12_readSet_5 rfl hl (by decide) rfl (fun ls hl => ?_)
  refine lv_iconst (v := (0 : Int32)) hx hb dX12_readSet_6 (by decide) ?_
  refine lv_istore_n (lv' := [(2, .int (0 : Int32)), (1, .int (0 : Int32)), (0, .ref (b + 306))]) hx hb dX12_readSet_7 rfl hl (by decide) rfl (fun ls hl => ?_)
  exact wk_X12_readSet_8 F hr n _ _ _ _ _ _ h hW hS (lv_sub hl [2, 1, 0] rfl)
set_option maxHeartbeats 4000000 in
set_option maxRecDepth 100000 in
theorem c_X12_readSet {l : Launch} {G : Gt} {b : Nat} {n : Nat} {μ : Mm} {out : (Int32 × Mm)} (h : sh_X12_readSet n  μ = some out) : Met l yX12_readSet (wU (Cond.code yX12_readSet cX12_readSet 3 (some .int))) ({ frames := 9, cells := 0, slots := 0, locals := 205 } : Room) (PcW (fg G) b μ [.ref (b + 306)]) (QW (fg G) b out.2 (some (.int out.1))) 0 0 (fb b) :=
  met_of [.ref (b + 306)] (by decide) (Nat.le_of_ble_eq_true rfl) (fun F hr hW hl => wk_X12_readSet F hr h hW va_S.rf hl)
set_option maxHeartbeats 4000000 in
set_option maxRecDepth 100000 in
theorem k_X12_readSet {own : String} {nL : Nat} (F : FX (fg G) b own cc nL p s m args meth c) {n : Nat} {μ : Mm} {out : (Int32 × Mm)} (h : sh_X12_readSet n  μ = some out) {index : Nat} (hl : Cond.methodLink own index yX12_readSet ∈ TBG) (hR : 9 + 1 ≤ R.frames ∧ 8 + (3 + 11) + 205 ≤ R.locals ∧ cells ≤ R.cells ∧ slots ≤ R.slots) (hW : WH (fg G) b μ H) (hS : va_S (fb b) s.heap H locs) (hsz : ls.size = nL) (hrest : (rest.map fun v => v.category).sum ≤ 8) (hdg : decode cc pc = .ok (.invokevirtual index, 3))
    (kk : ∀ (H1 : Heap) (locs1 : List Loc), WH (fg G) b out.2 H1 → va_S (fb b) s.heap H1 locs1 → W p l e R s m args below meth c H1 locs1 cells slots Q (F0 m (pc + 3) ls (.int out.1 :: rest))) : W p l e R s m args below meth c H locs cells slots Q (F0 m pc ls (.ref (b + 306) :: rest)) :=
  f_callV (As := []) (ci := 12) (c_X12_readSet h) ⟨rfl, rfl⟩ rfl (ky_lm kyf_306 (by decide)) (wF_12 kyf_306) q_2088 qp_110 q_14 q_2089 rfl ⟨by decide +kernel, by decide +kernel, (show (parseMethodDescriptor yX12_readSet.desc).map (fun d => d.parameters.length) = some 0 by decide +kernel)⟩ F hl hR hW hS hsz hrest rfl hdg kk
set_option maxHeartbeats 4000000 in
set_option maxRecDepth 100000 in
theorem wk_X12_toRead {n : Nat} {μ : Mm} {out : (Int32 × Mm)} (F : FX (fg G) b RX12 cX12_toRead 1 p s m args meth c) (hr : meth.sig.returnType = some .int) (h : sh_X12_toRead n  μ = some out) (hW : WH (fg G) b μ H) (hS : va_S (fb b) s.heap H locs) (hl : lv_has ls 1 [(0, .ref (b + 306))]) : W p l e ({ frames := 10, cells := 0, slots := 0, locals := 227 } : Room) s m args below meth c H locs 0 0 (MQ below (QW (fg G) b out.2 (some (.int out.1))) args s 0 0 (fb b)) (F0 m 0 ls []) := by
  have hx := F.1
  have hb := F.2.1
  unfold sh_X12_toRead at h
  refine lv_aload_n hx hb dX12_toRead_0 rfl (lv_at hl 0 rfl) ?_
  refine lv_iconst (v := (0 : Int32)) hx hb dX12_toRead_1 (by decide) ?_
  obtain ⟨μ1, hmμ1, h⟩ := ob h
  refine fl_put12_0 kyf_306 F hW hS q_1471 hmμ1 dX12_toRead_2 (fun H locs hW hS => ?_)
  refine lv_aload_n hx hb dX12_toRead_5 rfl (lv_at hl 0 rfl) ?_
  obtain ⟨r2, qr2, h⟩ := ob h
  refine k_X12_readSet F qr2 q_2086 ⟨Nat.le_of_ble_eq_true rfl, Nat.le_of_ble_eq_true rfl, Nat.le_of_ble_eq_true rfl, Nat.le_of_ble_eq_true rfl⟩ hW hS hl.1 (Nat.le_of_ble_eq_true rfl) dX12_toRead_6 (fun H locs hW hS => ?_)
  cases h
  exact r_int F hr hW hS dX12_toRead_9
set_option maxHeartbeats 4000000 in
set_option maxRecDepth 100000 in
theorem c_X12_toRead {l : Launch} {G : Gt} {b : Nat} {n : Nat} {μ : Mm} {out : (Int32 × Mm)} (h : sh_X12_toRead n  μ = some out) : Met l yX12_toRead (wU (Cond.code yX12_toRead cX12_toRead 1 (some .int))) ({ frames := 10, cells := 0, slots := 0, locals := 227 } : Room) (PcW (fg G) b μ [.ref (b + 306)]) (QW (fg G) b out.2 (some (.int out.1))) 0 0 (fb b) :=
  met_of [.ref (b + 306)] (by decide) (Nat.le_of_ble_eq_true rfl) (fun F hr hW hl => wk_X12_toRead F hr h hW va_S.rf hl)
set_option maxHeartbeats 4000000 in
set_option maxRecDepth 100000 in
theorem k_X12_toRead {own : String} {nL : Nat} (F : FX (fg G) b own cc nL p s m args meth c) {n : Nat} {μ : Mm} {out : (Int32 × Mm)} (h : sh_X12_toRead n  μ = some out) {index : Nat} (hl : Cond.methodLink own index yX12_toRead ∈ TBG) (hR : 10 + 1 ≤ R.frames ∧ 8 + (1 + 11) + 227 ≤ R.locals ∧ cells ≤ R.cells ∧ slots ≤ R.slots) (hW : WH (fg G) b μ H) (hS : va_S (fb b) s.heap H locs) (hsz : ls.size = nL) (hrest : (rest.map fun v => v.category).sum ≤ 8) (hdg : decode cc pc = .ok (.invokevirtual index, 3))
    (kk : ∀ (H1 : Heap) (locs1 : List Loc), WH (fg G) b out.2 H1 → va_S (fb b) s.heap H1 locs1 → W p l e R s m args below meth c H1 locs1 cells slots Q (F0 m (pc + 3) ls (.int out.1 :: rest))) : W p l e R s m args below meth c H locs cells slots Q (F0 m pc ls (.ref (b + 306) :: rest)) :=
  f_callV (As := []) (ci := 12) (c_X12_toRead h) ⟨rfl, rfl⟩ rfl (ky_lm kyf_306 (by decide)) (wF_12 kyf_306) q_2083 q_2084 q_14 q_2085 rfl ⟨by decide +kernel, by decide +kernel, (show (parseMethodDescriptor yX12_toRead.desc).map (fun d => d.parameters.length) = some 0 by decide +kernel)⟩ F hl hR hW hS hsz hrest rfl hdg kk
set_option maxHeartbeats 4000000 in
set_option maxRecDepth 100000 in
theorem wk_X12_proof_107 {n : Nat} {out : (Int32 × Mm)} (F : FX (fg G) b RX12 cX12_proof 4 p s m args meth c) (hr : meth.sig.returnType = some .int) : ∀ (f : Nat) (x1 : Int32) (x2 : Int32) (x3 : Int32) (μ : Mm) (H : Heap) (locs : List Loc) (ls : Array Slot), sh_X12_proof_107 n f x1 x2 x3 μ = some out → WH (fg G) b μ H → va_S (fb b) s.heap H locs → lv_has ls 4 [(0, .ref (b + 306)), (1, .int x1), (2, .int x2), (3, .int x3)] → W p l e ({ frames := 10, cells := 0, slots := 0, locals := 227 } : Room) s m args below meth c H locs 0 0 (MQ below (QW (fg G) b out.2 (some (.int out.1))) args s 0 0 (fb b)) (F0 m 107 ls []) := by
  have hx := F.1
  have hb := F.2.1
  intro f
  induction f with
  | zero =>
    intro _ _ _ _ _ _ _ h
    rw [sh_X12_proof_107] at h
    cases h
  | succ f ih =>
    intro x1 x2 x3 μ H locs ls h hW hS hl
    rw [sh_X12_proof_107] at h
    have hk107 := ih
    refine lv_iload_n hx hb dX12_proof_107 rfl (lv_at hl 3 rfl) ?_
    refine lv_aload_n hx hb dX12_proof_108 rfl (lv_at hl 0 rfl) ?_
    refine fl_get12 (v := .ref (b + 307)) kyf_306 F hW 1 (by decide) q_1472 rfl rfl dX12_proof_109 ?_
    refine lv_bipush (v := (9 : Int32)) hx hb dX12_proof_112 (by decide) ?_
    obtain ⟨v7, qv7, h⟩ := ob h
    refine fm_iald kyf_307 F hW qv7 dX12_proof_114 ?_
    refine lv_icmp_ge (tgt := 155) hx hb dX12_proof_115 (by decide) (fun cc => ?_) (fun cc => ?_)
    · replace h := (if_pos cc).symm.trans h
      refine lv_aload_n hx hb dX12_proof_155 rfl (lv_at hl 0 rfl) ?_
      refine fl_get12 (v := .ref (b + 307)) kyf_306 F hW 1 (by decide) q_1472 rfl rfl dX12_proof_156 ?_
      refine lv_bipush (v := (10 : Int32)) hx hb dX12_proof_159 (by decide) ?_
      refine lv_iconst (v := (1 : Int32)) hx hb dX12_proof_161 (by decide) ?_
      obtain ⟨μ8, qμ8, h⟩ := ob h
      refine fm_iast kyf_307 F hW hS qμ8 dX12_proof_162 (fun H locs hW hS => ?_)
      refine lv_aload_n hx hb dX12_proof_163 rfl (lv_at hl 0 rfl) ?_
      refine fl_get12 (v := .ref (b + 307)) kyf_306 F hW 1 (by decide) q_1472 rfl rfl dX12_proof_164 ?_
      refine lv_bipush (v := (11 : Int32)) hx hb dX12_proof_167 (by decide) ?_
      refine lv_aload_n hx hb dX12_proof_169 rfl (lv_at hl 0 rfl) ?_
      refine fl_get12 (v := .int (μ8.1 306 36)) kyf_306 F hW 36 (by decide) q_1507 rfl rfl dX12_proof_170 ?_
      obtain ⟨μ9, qμ9, h⟩ := ob h
      refine fm_iast kyf_307 F hW hS qμ9 dX12_proof_173 (fun H locs hW hS => ?_)
      refine lv_iload_n hx hb dX12_proof_174 rfl (lv_at hl 2 rfl) ?_
      cases h
      exact r_int F hr hW hS dX12_proof_175
    · replace h := (if_neg cc).symm.trans h
      refine lv_iload_n hx hb dX12_proof_118 rfl (lv_at hl 2 rfl) ?_
      refine lv_iload_n hx hb dX12_proof_119 rfl (lv_at hl 1 rfl) ?_
      refine lv_iload_n hx hb dX12_proof_120 rfl (lv_at hl 3 rfl) ?_
      refine lv_ishr hx hb dX12_proof_121 ?_
      refine lv_iconst (v := (1 : Int32)) hx hb dX12_proof_122 (by decide) ?_
      refine lv_iand hx hb dX12_proof_123 ?_
      refine lv_iadd hx hb dX12_proof_124 ?_
      obtain ⟨v10, ev10⟩ : ∃ y, y = (x2 + ((x1 >>> (x3 &&& 31)) &&& (1 : Int32))) := ⟨_, rfl⟩
      have h := nm_at ev10 h
      rw [← ev10]
      refine lv_istore_n (lv' := [(2, .int v10), (0, .ref (b + 306)), (1, .int x1), (3, .int x3)]) hx hb dX12_proof_125 rfl hl (by decide) rfl (fun ls hl => ?_)
      refine lv_aload_n hx hb dX12_proof_126 rfl (lv_at hl 1 rfl) ?_
      refine lv_iload_n hx hb dX12_proof_127 rfl (lv_at hl 3 rfl) ?_
      refine lv_iconst (v := (4 : Int32)) hx hb dX12_proof_128 (by decide) ?_
      refine lv_aload_n hx hb dX12_proof_129 rfl (lv_at hl 1 rfl) ?_
      refine fl_get12 (v := .ref (b + 324)) kyf_306 F hW 35 (by decide) q_1506 rfl rfl dX12_proof_130 ?_
      refine lv_iload_n hx hb dX12_proof_133 rfl (lv_at hl 3 rfl) ?_
      obtain ⟨v11, qv11, h⟩ := ob h
      refine fm_iald kyf_324 F hW qv11 dX12_proof_134 ?_
      obtain ⟨r12, qr12, h⟩ := ob h
      refine k_X12_set F qr12 q_1727 ⟨Nat.le_of_ble_eq_true rfl, Nat.le_of_ble_eq_true rfl, Nat.le_of_ble_eq_true rfl, Nat.le_of_ble_eq_true rfl⟩ hW hS hl.1 (Nat.le_of_ble_eq_true rfl) dX12_proof_135 (fun H locs hW hS => ?_)
      refine lv_aload_n hx hb dX12_proof_138 rfl (lv_at hl 1 rfl) ?_
      refine lv_iload_n hx hb dX12_proof_139 rfl (lv_at hl 3 rfl) ?_
      refine lv_iconst (v := (5 : Int32)) hx hb dX12_proof_140 (by decide) ?_
      refine lv_aload_n hx hb dX12_proof_141 rfl (lv_at hl 1 rfl) ?_
      refine lv_iload_n hx hb dX12_proof_142 rfl (lv_at hl 3 rfl) ?_
      obtain ⟨r13, qr13, h⟩ := ob h
      refine k_X12_linesOf F qr13 q_1929 ⟨Nat.le_of_ble_eq_true rfl, Nat.le_of_ble_eq_true rfl, Nat.le_of_ble_eq_true rfl, Nat.le_of_ble_eq_true rfl⟩ hW hS hl.1 (Nat.le_of_ble_eq_true rfl) dX12_proof_143 (fun H locs hW hS => ?_)
      obtain ⟨r14, qr14, h⟩ := ob h
      refine k_X12_set F qr14 q_1727 ⟨Nat.le_of_ble_eq_true rfl, Nat.le_of_ble_eq_true rfl, Nat.le_of_ble_eq_true rfl, Nat.le_of_ble_eq_true rfl⟩ hW hS hl.1 (Nat.le_of_ble_eq_true rfl) dX12_proof_146 (fun H locs hW hS => ?_)
      refine lv_iinc (v := (x3 + (1 : Int32))) (lv' := [(3, .int (x3 + (1 : Int32))), (2, .int v10), (0, .ref (b + 306)), (1, .int x1)]) hx hb dX12_proof_149 hl (k := 3) rfl rfl (by decide) rfl (fun ls hl => ?_)
      refine lv_goto (tgt := 107) hx hb dX12_proof_152 (by decide) ?_
      exact hk107 _ _ _ _ _ _ _ h hW hS (lv_sub hl [2, 3, 1, 0] rfl)
set_option maxHeartbeats 4000000 in
set_option maxRecDepth 100000 in
theorem wk_X12_proof_75 {n : Nat} {out : (Int32 × Mm)} (F : FX (fg G) b RX12 cX12_proof 4 p s m args meth c) (hr : meth.sig.returnType = some .int) : ∀ (f : Nat) (x1 : Int32) (x2 : Int32) (x3 : Int32) (μ : Mm) (H : Heap) (locs : List Loc) (ls : Array Slot), sh_X12_proof_75 n f x1 x2 x3 μ = some out → WH (fg G) b μ H → va_S (fb b) s.heap H locs → lv_has ls 4 [(0, .ref (b + 306)), (1, .int x1), (2, .int x2), (3, .int x3)] → W p l e ({ frames := 10, cells := 0, slots := 0, locals := 227 } : Room) s m args below meth c H locs 0 0 (MQ below (QW (fg G) b out.2 (some (.int out.1))) args s 0 0 (fb b)) (F0 m 75 ls []) := by
  have hx := F.1
  have hb := F.2.1
  intro f
  induction f with
  | zero =>
    intro _ _ _ _ _ _ _ h
    rw [sh_X12_proof_75] at h
    cases h
  | succ f ih =>
    intro x1 x2 x3 μ H locs ls h hW hS hl
    rw [sh_X12_proof_75] at h
    have hk75 := ih
    refine lv_iload_n hx hb dX12_proof_75 rfl (lv_at hl 3 rfl) ?_
    refine lv_aload_n hx hb dX12_proof_76 rfl (lv_at hl 0 rfl) ?_
    refine fl_get12 (v := .int (μ.1 306 17)) kyf_306 F hW 17 (by decide) q_1488 rfl rfl dX12_proof_77 ?_
    refine lv_icmp_ge (tgt := 105) hx hb dX12_proof_80 (by decide) (fun cc => ?_) (fun cc => ?_)
    · replace h := (if_pos cc).symm.trans h
      refine lv_iconst (v := (0 : Int32)) hx hb dX12_proof_105 (by decide) ?_
      refine lv_istore_n (lv' := [(3, .int (0 : Int32)), (0, .ref (b + 306)), (1, .int x1), (2, .int x2)]) hx hb dX12_proof_106 rfl hl (by decide) rfl (fun ls hl => ?_)
      exact wk_X12_proof_107 F hr n _ _ _ _ _ _ _ h hW hS (lv_sub hl [1, 2, 3, 0] rfl)
    · replace h := (if_neg cc).symm.trans h
      refine lv_aload_n hx hb dX12_proof_83 rfl (lv_at hl 0 rfl) ?_
      refine fl_get12 (v := .ref (b + 307)) kyf_306 F hW 1 (by decide) q_1472 rfl rfl dX12_proof_84 ?_
      refine lv_sipush (v := (2701 : Int32)) hx hb dX12_proof_87 (by decide) ?_
      refine lv_iload_n hx hb dX12_proof_90 rfl (lv_at hl 3 rfl) ?_
      refine lv_iadd hx hb dX12_proof_91 ?_
      refine lv_aload_n hx hb dX12_proof_92 rfl (lv_at hl 0 rfl) ?_
      refine fl_get12 (v := .ref (b + 310)) kyf_306 F hW 16 (by decide) q_1487 rfl rfl dX12_proof_93 ?_
      refine lv_iload_n hx hb dX12_proof_96 rfl (lv_at hl 3 rfl) ?_
      obtain ⟨v15, qv15, h⟩ := ob h
      refine fm_bald kyf_310 F hW qv15 dX12_proof_97 ?_
      obtain ⟨μ16, qμ16, h⟩ := ob h
      refine fm_iast kyf_307 F hW hS qμ16 dX12_proof_98 (fun H locs hW hS => ?_)
      refine lv_iinc (v := (x3 + (1 : Int32))) (lv' := [(3, .int (x3 + (1 : Int32))), (0, .ref (b + 306)), (1, .int x1), (2, .int x2)]) hx hb dX12_proof_99 hl (k := 3) rfl rfl (by decide) rfl (fun ls hl => ?_)
      refine lv_goto (tgt := 75) hx hb dX12_proof_102 (by decide) ?_
      exact hk75 _ _ _ _ _ _ _ h hW hS (lv_sub hl [1, 2, 3, 0] rfl)
set_option maxHeartbeats 4000000 in
set_option maxRecDepth 100000 in
theorem wk_X12_proof_23 {n : Nat} {out : (Int32 × Mm)} (F : FX (fg G) b RX12 cX12_proof 4 p s m args meth c) (hr : meth.sig.returnType = some .int) : ∀ (f : Nat) (x1 : Int32) (x2 : Int32) (x3 : Int32) (μ : Mm) (H : Heap) (locs : List Loc) (ls : Array Slot), sh_X12_proof_23 n f x1 x2 x3 μ = some out → WH (fg G) b μ H → va_S (fb b) s.heap H locs → lv_has ls 4 [(0, .ref (b + 306)), (1, .int x1), (2, .int x2), (3, .int x3)] → W p l e ({ frames := 10, cells := 0, slots := 0, locals := 227 } : Room) s m args below meth c H locs 0 0 (MQ below (QW (fg G) b out.2 (some (.int out.1))) args s 0 0 (fb b)) (F0 m 23 ls []) := by
  have hx := F.1
  have hb := F.2.1
  intro f
  induction f with
  | zero =>
    intro _ _ _ _ _ _ _ h
    rw [sh_X12_proof_23] at h
    cases h
  | succ f ih =>
    intro x1 x2 x3 μ H locs ls h hW hS hl
    rw [sh_X12_proof_23] at h
    have hk23 := ih
    refine lv_iload_n hx hb dX12_proof_23 rfl (lv_at hl 3 rfl) ?_
    refine lv_aload_n hx hb dX12_proof_24 rfl (lv_at hl 0 rfl) ?_
    refine fl_get12 (v := .int (μ.1 306 36)) kyf_306 F hW 36 (by decide) q_1507 rfl rfl dX12_proof_25 ?_
    refine lv_icmp_ge (tgt := 56) hx hb dX12_proof_28 (by decide) (fun cc => ?_) (fun cc => ?_)
    · replace h := (if_pos cc).symm.trans h
      refine lv_aload_n hx hb dX12_proof_56 rfl (lv_at hl 0 rfl) ?_
      refine fl_get12 (v := .ref (b + 307)) kyf_306 F hW 1 (by decide) q_1472 rfl rfl dX12_proof_57 ?_
      refine lv_sipush (v := (2460 : Int32)) hx hb dX12_proof_60 (by decide) ?_
      refine lv_aload_n hx hb dX12_proof_63 rfl (lv_at hl 0 rfl) ?_
      refine fl_get12 (v := .int (μ.1 306 36)) kyf_306 F hW 36 (by decide) q_1507 rfl rfl dX12_proof_64 ?_
      refine lv_iadd hx hb dX12_proof_67 ?_
      refine lv_aload_n hx hb dX12_proof_68 rfl (lv_at hl 0 rfl) ?_
      refine fl_get12 (v := .int (μ.1 306 17)) kyf_306 F hW 17 (by decide) q_1488 rfl rfl dX12_proof_69 ?_
      obtain ⟨μ6, qμ6, h⟩ := ob h
      refine fm_iast kyf_307 F hW hS qμ6 dX12_proof_72 (fun H locs hW hS => ?_)
      refine lv_iconst (v := (0 : Int32)) hx hb dX12_proof_73 (by decide) ?_
      refine lv_istore_n (lv' := [(3, .int (0 : Int32)), (0, .ref (b + 306)), (1, .int x1), (2, .int x2)]) hx hb dX12_proof_74 rfl hl (by decide) rfl (fun ls hl => ?_)
      exact wk_X12_proof_75 F hr n _ _ _ _ _ _ _ h hW hS (lv_sub hl [1, 2, 3, 0] rfl)
    · replace h := (if_neg cc).symm.trans h
      refine lv_aload_n hx hb dX12_proof_31 rfl (lv_at hl 0 rfl) ?_
      refine fl_get12 (v := .ref (b + 307)) kyf_306 F hW 1 (by decide) q_1472 rfl rfl dX12_proof_32 ?_
      refine lv_sipush (v := (2460 : Int32)) hx hb dX12_proof_35 (by decide) ?_
      refine lv_iload_n hx hb dX12_proof_38 rfl (lv_at hl 3 rfl) ?_
      refine lv_iadd hx hb dX12_proof_39 ?_
      refine lv_aload_n hx hb dX12_proof_40 rfl (lv_at hl 0 rfl) ?_
      refine fl_get12 (v := .int (μ.1 306 17)) kyf_306 F hW 17 (by decide) q_1488 rfl rfl dX12_proof_41 ?_
      obtain ⟨μ17, qμ17, h⟩ := ob h
      refine fm_iast kyf_307 F hW hS qμ17 dX12_proof_44 (fun H locs hW hS => ?_)
      refine lv_aload_n hx hb dX12_proof_45 rfl (lv_at hl 0 rfl) ?_
      refine lv_iload_n hx hb dX12_proof_46 rfl (lv_at hl 3 rfl) ?_
      obtain ⟨r18, qr18, h⟩ := ob h
      refine k_X12_putLine F qr18 q_2098 ⟨Nat.le_of_ble_eq_true rfl, Nat.le_of_ble_eq_true rfl, Nat.le_of_ble_eq_true rfl, Nat.le_of_ble_eq_true rfl⟩ hW hS hl.1 (Nat.le_of_ble_eq_true rfl) dX12_proof_47 (fun H locs hW hS => ?_)
      refine lv_iinc (v := (x3 + (1 : Int32))) (lv' := [(3, .int (x3 + (1 : Int32))), (0, .ref (b + 306)), (1, .int x1), (2, .int x2)]) hx hb dX12_proof_50 hl (k := 3) rfl rfl (by decide) rfl (fun ls hl => ?_)
      refine lv_goto (tgt := 23) hx hb dX12_proof_53 (by decide) ?_
      exact hk23 _ _ _ _ _ _ _ h hW hS (lv_sub hl [1, 2, 3, 0] rfl)
set_option maxHeartbeats 4000000 in
set_option maxRecDepth 100000 in
theorem wk_X12_proof {n : Nat} {μ : Mm} {out : (Int32 × Mm)} (F : FX (fg G) b RX12 cX12_proof 4 p s m args meth c) (hr : meth.sig.returnType = some .int) (h : sh_X12_proof n  μ = some out) (hW : WH (fg G) b μ H) (hS : va_S (fb b) s.heap H locs) (hl : lv_has ls 4 [(0, .ref (b + 306))]) : W p l e ({ frames := 10, cells := 0, slots := 0, locals := 227 } : Room) s m args below meth c H locs 0 0 (MQ below (QW (fg G) b out.2 (some (.int out.1))) args s 0 0 (fb b)) (F0 m 0 ls []) := by
  have hx := F.1
  have hb := F.2.1
  unfold sh_X12_proof at h
  refine lv_aload_n hx hb dX12_proof_0 rfl (lv_at hl 0 rfl) ?_
  refine lv_iconst (v := (0 : Int32)) hx hb dX12_proof_1 (by decide) ?_
  obtain ⟨μ1, hmμ1, h⟩ := ob h
  refine fl_put12_0 kyf_306 F hW hS q_1471 hmμ1 dX12_proof_2 (fun H locs hW hS => ?_)
  refine lv_aload_n hx hb dX12_proof_5 rfl (lv_at hl 0 rfl) ?_
  obtain ⟨r2, qr2, h⟩ := ob h
  refine k_X12_remember F qr2 q_1747 ⟨Nat.le_of_ble_eq_true rfl, Nat.le_of_ble_eq_true rfl, Nat.le_of_ble_eq_true rfl, Nat.le_of_ble_eq_true rfl⟩ hW hS hl.1 (Nat.le_of_ble_eq_true rfl) dX12_proof_6 (fun H locs hW hS => ?_)
  refine lv_aload_n hx hb dX12_proof_9 rfl (lv_at hl 0 rfl) ?_
  obtain ⟨r3, qr3, h⟩ := ob h
  refine k_X12_readSet F qr3 q_2086 ⟨Nat.le_of_ble_eq_true rfl, Nat.le_of_ble_eq_true rfl, Nat.le_of_ble_eq_true rfl, Nat.le_of_ble_eq_true rfl⟩ hW hS hl.1 (Nat.le_of_ble_eq_true rfl) dX12_proof_10 (fun H locs hW hS => ?_)
  obtain ⟨v4, ev4⟩ : ∃ y, y = r3.1 := ⟨_, rfl⟩
  have h := nm_at ev4 h
  rw [← ev4]
  refine lv_istore_n (lv' := [(1, .int v4), (0, .ref (b + 306))]) hx hb dX12_proof_13 rfl hl (by decide) rfl (fun ls hl => ?_)
  refine lv_iconst (v := (0 : Int32)) hx hb dX12_proof_14 (by decide) ?_
  refine lv_istore_n (lv' := [(2, .int (0 : Int32)), (1, .int v4), (0, .ref (b + 306))]) hx hb dX12_proof_15 rfl hl (by decide) rfl (fun ls hl => ?_)
  refine lv_aload_n hx hb dX12_proof_16 rfl (lv_at hl 2 rfl) ?_
  refine lv_iconst (v := (0 : Int32)) hx hb dX12_proof_17 (by decide) ?_
  obtain ⟨μ5, hmμ5, h⟩ := ob h
  refine fl_put12_17 kyf_306 F hW hS q_1488 hmμ5 dX12_proof_18 (fun H locs hW hS => ?_)
  refine lv_iconst (v := (0 : Int32)) hx hb dX12_proof_21 (by decide) ?_
  refine lv_istore_n (lv' := [(3, .int (0 : Int32)), (2, .int (0 : Int32)), (1, .int v4), (0, .ref (b + 306))]) hx hb dX12_proof_22 rfl hl (by decide) rfl (fun ls hl => ?_)
  exact wk_X12_proof_23 F hr n _ _ _ _ _ _ _ h hW hS (lv_sub hl [3, 2, 1, 0] rfl)
set_option maxHeartbeats 4000000 in
set_option maxRecDepth 100000 in
theorem c_X12_proof {l : Launch} {G : Gt} {b : Nat} {n : Nat} {μ : Mm} {out : (Int32 × Mm)} (h : sh_X12_proof n  μ = some out) : Met l yX12_proof (wU (Cond.code yX12_proof cX12_proof 4 (some .int))) ({ frames := 10, cells := 0, slots := 0, locals := 227 } : Room) (PcW (fg G) b μ [.ref (b + 306)]) (QW (fg G) b out.2 (some (.int out.1))) 0 0 (fb b) :=
  met_of [.ref (b + 306)] (by decide) (Nat.le_of_ble_eq_true rfl) (fun F hr hW hl => wk_X12_proof F hr h hW va_S.rf hl)
set_option maxHeartbeats 4000000 in
set_option maxRecDepth 100000 in
theorem k_X12_proof {own : String} {nL : Nat} (F : FX (fg G) b own cc nL p s m args meth c) {n : Nat} {μ : Mm} {out : (Int32 × Mm)} (h : sh_X12_proof n  μ = some out) {index : Nat} (hl : Cond.methodLink own index yX12_proof ∈ TBG) (hR : 10 + 1 ≤ R.frames ∧ 8 + (4 + 11) + 227 ≤ R.locals ∧ cells ≤ R.cells ∧ slots ≤ R.slots) (hW : WH (fg G) b μ H) (hS : va_S (fb b) s.heap H locs) (hsz : ls.size = nL) (hrest : (rest.map fun v => v.category).sum ≤ 8) (hdg : decode cc pc = .ok (.invokevirtual index, 3))
    (kk : ∀ (H1 : Heap) (locs1 : List Loc), WH (fg G) b out.2 H1 → va_S (fb b) s.heap H1 locs1 → W p l e R s m args below meth c H1 locs1 cells slots Q (F0 m (pc + 3) ls (.int out.1 :: rest))) : W p l e R s m args below meth c H locs cells slots Q (F0 m pc ls (.ref (b + 306) :: rest)) :=
  f_callV (As := []) (ci := 12) (c_X12_proof h) ⟨rfl, rfl⟩ rfl (ky_lm kyf_306 (by decide)) (wF_12 kyf_306) q_2103 q_2104 q_14 q_2105 rfl ⟨by decide +kernel, by decide +kernel, (show (parseMethodDescriptor yX12_proof.desc).map (fun d => d.parameters.length) = some 0 by decide +kernel)⟩ F hl hR hW hS hsz hrest rfl hdg kk
set_option maxHeartbeats 4000000 in
set_option maxRecDepth 100000 in
theorem wk_X12_changedLines_58 {n : Nat} {out : (Int32 × Mm)} (F : FX (fg G) b RX12 cX12_changedLines 4 p s m args meth c) (hr : meth.sig.returnType = some .int) : ∀ (f : Nat) (x1 : Int32) (x2 : Int32) (x3 : Int32) (μ : Mm) (H : Heap) (locs : List Loc) (ls : Array Slot), sh_X12_changedLines_58 n f x1 x2 x3 μ = some out → WH (fg G) b μ H → va_S (fb b) s.heap H locs → lv_has ls 4 [(0, .ref (b + 306)), (1, .int x1), (2, .int x2), (3, .int x3)] → W p l e ({ frames := 9, cells := 0, slots := 0, locals := 205 } : Room) s m args below meth c H locs 0 0 (MQ below (QW (fg G) b out.2 (some (.int out.1))) args s 0 0 (fb b)) (F0 m 58 ls []) := by
  have hx := F.1
  have hb := F.2.1
  intro f
  induction f with
  | zero =>
    intro _ _ _ _ _ _ _ h
    rw [sh_X12_changedLines_58] at h
    cases h
  | succ f ih =>
    intro x1 x2 x3 μ H locs ls h hW hS hl
    rw [sh_X12_changedLines_58] at h
    have hk58 := ih
    refine lv_iload_n hx hb dX12_changedLines_58 rfl (lv_at hl 3 rfl) ?_
    refine lv_iload_n hx hb dX12_changedLines_59 rfl (lv_at hl 1 rfl) ?_
    refine lv_icmp_ge (tgt := 86) hx hb dX12_changedLines_60 (by decide) (fun cc => ?_) (fun cc => ?_)
    · replace h := (if_pos cc).symm.trans h
      refine lv_iload_n hx hb dX12_changedLines_86 rfl (lv_at hl 2 rfl) ?_
      cases h
      exact r_int F hr hW hS dX12_changedLines_87
    · replace h := (if_neg cc).symm.trans h
      refine lv_iload_n hx hb dX12_changedLines_63 rfl (lv_at hl 2 rfl) ?_
      refine lv_aload_n hx hb dX12_changedLines_64 rfl (lv_at hl 0 rfl) ?_
      refine lv_iload_n hx hb dX12_changedLines_65 rfl (lv_at hl 3 rfl) ?_
      refine lv_iload_n hx hb dX12_changedLines_66 rfl (lv_at hl 3 rfl) ?_
      obtain ⟨r8, qr8, h⟩ := ob h
      refine k_X12_isAs F qr8 q_2094 ⟨Nat.le_of_ble_eq_true rfl, Nat.le_of_ble_eq_true rfl, Nat.le_of_ble_eq_true rfl, Nat.le_of_ble_eq_true rfl⟩ hW hS hl.1 (Nat.le_of_ble_eq_true rfl) dX12_changedLines_67 (fun H locs hW hS => ?_)
      refine lv_if_eq (tgt := 77) hx hb dX12_changedLines_70 (by decide) (fun cc => ?_) (fun cc => ?_)
      · replace h := (if_pos cc).symm.trans h
        refine lv_iconst (v := (1 : Int32)) hx hb dX12_changedLines_77 (by decide) ?_
        refine lv_iadd hx hb dX12_changedLines_78 ?_
        obtain ⟨v9, ev9⟩ : ∃ y, y = (x2 + (1 : Int32)) := ⟨_, rfl⟩
        have h := nm_at ev9 h
        rw [← ev9]
        refine lv_istore_n (lv' := [(2, .int v9), (0, .ref (b + 306)), (1, .int x1), (3, .int x3)]) hx hb dX12_changedLines_79 rfl hl (by decide) rfl (fun ls hl => ?_)
        refine lv_iinc (v := (x3 + (1 : Int32))) (lv' := [(3, .int (x3 + (1 : Int32))), (2, .int v9), (0, .ref (b + 306)), (1, .int x1)]) hx hb dX12_changedLines_80 hl (k := 3) rfl rfl (by decide) rfl (fun ls hl => ?_)
        refine lv_goto (tgt := 58) hx hb dX12_changedLines_83 (by decide) ?_
        exact hk58 _ _ _ _ _ _ _ h hW hS (lv_sub hl [2, 3, 1, 0] rfl)
      · replace h := (if_neg cc).symm.trans h
        refine lv_iconst (v := (0 : Int32)) hx hb dX12_changedLines_73 (by decide) ?_
        refine lv_goto (tgt := 78) hx hb dX12_changedLines_74 (by decide) ?_
        refine lv_iadd hx hb dX12_changedLines_78 ?_
        obtain ⟨v10, ev10⟩ : ∃ y, y = (x2 + (0 : Int32)) := ⟨_, rfl⟩
        have h := nm_at ev10 h
        rw [← ev10]
        refine lv_istore_n (lv' := [(2, .int v10), (0, .ref (b + 306)), (1, .int x1), (3, .int x3)]) hx hb dX12_changedLines_79 rfl hl (by decide) rfl (fun ls hl => ?_)
        refine lv_iinc (v := (x3 + (1 : Int32))) (lv' := [(3, .int (x3 + (1 : Int32))), (2, .int v10), (0, .ref (b + 306)), (1, .int x1)]) hx hb dX12_changedLines_80 hl (k := 3) rfl rfl (by decide) rfl (fun ls hl => ?_)
        refine lv_goto (tgt := 58) hx hb dX12_changedLines_83 (by decide) ?_
        exact hk58 _ _ _ _ _ _ _ h hW hS (lv_sub hl [2, 3, 1, 0] rfl)
set_option maxHeartbeats 4000000 in
set_option maxRecDepth 100000 in
theorem wk_X12_changedLines {n : Nat} {μ : Mm} {out : (Int32 × Mm)} (F : FX (fg G) b RX12 cX12_changedLines 4 p s m args meth c) (hr : meth.sig.returnType = some .int) (h : sh_X12_changedLines n  μ = some out) (hW : WH (fg G) b μ H) (hS : va_S (fb b) s.heap H locs) (hl : lv_has ls 4 [(0, .ref (b + 306))]) : W p l e ({ frames := 9, cells := 0, slots := 0, locals := 205 } : Room) s m args below meth c H locs 0 0 (MQ below (QW (fg G) b out.2 (some (.int out.1))) args s 0 0 (fb b)) (F0 m 0 ls []) := by
  have hx := F.1
  have hb := F.2.1
  unfold sh_X12_changedLines at h
  refine lv_aload_n hx hb dX12_changedLines_0 rfl (lv_at hl 0 rfl) ?_
  refine lv_iconst (v := (0 : Int32)) hx hb dX12_changedLines_1 (by decide) ?_
  obtain ⟨μ1, hmμ1, h⟩ := ob h
  refine fl_put12_0 kyf_306 F hW hS q_1471 hmμ1 dX12_changedLines_2 (fun H locs hW hS => ?_)
  refine lv_aload_n hx hb dX12_changedLines_5 rfl (lv_at hl 0 rfl) ?_
  obtain ⟨r2, qr2, h⟩ := ob h
  refine k_X12_lay F qr2 q_1764 ⟨Nat.le_of_ble_eq_true rfl, Nat.le_of_ble_eq_true rfl, Nat.le_of_ble_eq_true rfl, Nat.le_of_ble_eq_true rfl⟩ hW hS hl.1 (Nat.le_of_ble_eq_true rfl) dX12_changedLines_6 (fun H locs hW hS => ?_)
  refine lv_aload_n hx hb dX12_changedLines_9 rfl (lv_at hl 0 rfl) ?_
  refine fl_get12 (v := .ref (b + 307)) kyf_306 F hW 1 (by decide) q_1472 rfl rfl dX12_changedLines_10 ?_
  refine lv_bipush (v := (10 : Int32)) hx hb dX12_changedLines_13 (by decide) ?_
  obtain ⟨v3, qv3, h⟩ := ob h
  refine fm_iald kyf_307 F hW qv3 dX12_changedLines_15 ?_
  refine lv_if_ne (tgt := 24) hx hb dX12_changedLines_16 (by decide) (fun cc => ?_) (fun cc => ?_)
  · replace h := (if_neg cc).symm.trans h
    refine lv_aload_n hx hb dX12_changedLines_24 rfl (lv_at hl 0 rfl) ?_
    refine fl_get12 (v := .int (r2.1 306 36)) kyf_306 F hW 36 (by decide) q_1507 rfl rfl dX12_changedLines_25 ?_
    refine lv_aload_n hx hb dX12_changedLines_28 rfl (lv_at hl 0 rfl) ?_
    refine fl_get12 (v := .ref (b + 307)) kyf_306 F hW 1 (by decide) q_1472 rfl rfl dX12_changedLines_29 ?_
    refine lv_bipush (v := (11 : Int32)) hx hb dX12_changedLines_32 (by decide) ?_
    obtain ⟨v4, qv4, h⟩ := ob h
    refine fm_iald kyf_307 F hW qv4 dX12_changedLines_34 ?_
    refine fl_min F hl.1 q_1663 q_465 q_3 mm_min (Nat.le_of_ble_eq_true rfl) (Nat.le_of_ble_eq_true rfl) (Nat.zero_le _) (Nat.zero_le _) dX12_changedLines_35 ?_
    obtain ⟨v5, ev5⟩ : ∃ y, y = (if v4 < (r2.1 306 36) then v4 else (r2.1 306 36)) := ⟨_, rfl⟩
    have h := nm_at ev5 h
    rw [← ev5]
    refine lv_istore_n (lv' := [(1, .int v5), (0, .ref (b + 306))]) hx hb dX12_changedLines_38 rfl hl (by decide) rfl (fun ls hl => ?_)
    refine lv_aload_n hx hb dX12_changedLines_39 rfl (lv_at hl 1 rfl) ?_
    refine fl_get12 (v := .int (r2.1 306 36)) kyf_306 F hW 36 (by decide) q_1507 rfl rfl dX12_changedLines_40 ?_
    refine lv_aload_n hx hb dX12_changedLines_43 rfl (lv_at hl 1 rfl) ?_
    refine fl_get12 (v := .ref (b + 307)) kyf_306 F hW 1 (by decide) q_1472 rfl rfl dX12_changedLines_44 ?_
    refine lv_bipush (v := (11 : Int32)) hx hb dX12_changedLines_47 (by decide) ?_
    obtain ⟨v6, qv6, h⟩ := ob h
    refine fm_iald kyf_307 F hW qv6 dX12_changedLines_49 ?_
    refine fl_max F hl.1 q_1823 q_43 q_3 mm_max (Nat.le_of_ble_eq_true rfl) (Nat.le_of_ble_eq_true rfl) (Nat.zero_le _) (Nat.zero_le _) dX12_changedLines_50 ?_
    refine lv_iload_n hx hb dX12_changedLines_53 rfl (lv_at hl 0 rfl) ?_
    refine lv_isub hx hb dX12_changedLines_54 ?_
    obtain ⟨v7, ev7⟩ : ∃ y, y = ((if (r2.1 306 36) < v6 then v6 else (r2.1 306 36)) - v5) := ⟨_, rfl⟩
    have h := nm_at ev7 h
    rw [← ev7]
    refine lv_istore_n (lv' := [(2, .int v7), (1, .int v5), (0, .ref (b + 306))]) hx hb dX12_changedLines_55 rfl hl (by decide) rfl (fun ls hl => ?_)
    refine lv_iconst (v := (0 : Int32)) hx hb dX12_changedLines_56 (by decide) ?_
    refine lv_istore_n (lv' := [(3, .int (0 : Int32)), (2, .int v7), (1, .int v5), (0, .ref (b + 306))]) hx hb dX12_changedLines_57 rfl hl (by decide) rfl (fun ls hl => ?_)
    exact wk_X12_changedLines_58 F hr n _ _ _ _ _ _ _ h hW hS (lv_sub hl [3, 2, 1, 0] rfl)
  · replace h := (if_pos cc).symm.trans h
    refine lv_aload_n hx hb dX12_changedLines_19 rfl (lv_at hl 0 rfl) ?_
    refine fl_get12 (v := .int (r2.1 306 36)) kyf_306 F hW 36 (by decide) q_1507 rfl rfl dX12_changedLines_20 ?_
    cases h
    exact r_int F hr hW hS dX12_changedLines_23
set_option maxHeartbeats 4000000 in
set_option maxRecDepth 100000 in
theorem c_X12_changedLines {l : Launch} {G : Gt} {b : Nat} {n : Nat} {μ : Mm} {out : (Int32 × Mm)} (h : sh_X12_changedLines n  μ = some out) : Met l yX12_changedLines (wU (Cond.code yX12_changedLines cX12_changedLines 4 (some .int))) ({ frames := 9, cells := 0, slots := 0, locals := 205 } : Room) (PcW (fg G) b μ [.ref (b + 306)]) (QW (fg G) b out.2 (some (.int out.1))) 0 0 (fb b) :=
  met_of [.ref (b + 306)] (by decide) (Nat.le_of_ble_eq_true rfl) (fun F hr hW hl => wk_X12_changedLines F hr h hW va_S.rf hl)
set_option maxHeartbeats 4000000 in
set_option maxRecDepth 100000 in
theorem k_X12_changedLines {own : String} {nL : Nat} (F : FX (fg G) b own cc nL p s m args meth c) {n : Nat} {μ : Mm} {out : (Int32 × Mm)} (h : sh_X12_changedLines n  μ = some out) {index : Nat} (hl : Cond.methodLink own index yX12_changedLines ∈ TBG) (hR : 9 + 1 ≤ R.frames ∧ 8 + (4 + 11) + 205 ≤ R.locals ∧ cells ≤ R.cells ∧ slots ≤ R.slots) (hW : WH (fg G) b μ H) (hS : va_S (fb b) s.heap H locs) (hsz : ls.size = nL) (hrest : (rest.map fun v => v.category).sum ≤ 8) (hdg : decode cc pc = .ok (.invokevirtual index, 3))
    (kk : ∀ (H1 : Heap) (locs1 : List Loc), WH (fg G) b out.2 H1 → va_S (fb b) s.heap H1 locs1 → W p l e R s m args below meth c H1 locs1 cells slots Q (F0 m (pc + 3) ls (.int out.1 :: rest))) : W p l e R s m args below meth c H locs cells slots Q (F0 m pc ls (.ref (b + 306) :: rest)) :=
  f_callV (As := []) (ci := 12) (c_X12_changedLines h) ⟨rfl, rfl⟩ rfl (ky_lm kyf_306 (by decide)) (wF_12 kyf_306) q_2107 q_2108 q_14 q_2109 rfl ⟨by decide +kernel, by decide +kernel, (show (parseMethodDescriptor yX12_changedLines.desc).map (fun d => d.parameters.length) = some 0 by decide +kernel)⟩ F hl hR hW hS hsz hrest rfl hdg kk
set_option maxHeartbeats 4000000 in
set_option maxRecDepth 100000 in
theorem wk_X12_arePagesAlike_4 {n : Nat} {μ : Mm} {out : Int32} (F : FX (fg G) b RX12 cX12_arePagesAlike 3 p s m args meth c) (hr : meth.sig.returnType = some .boolean) : ∀ (f : Nat) (x1 : Int32) (x2 : Int32) (H : Heap) (locs : List Loc) (ls : Array Slot), sh_X12_arePagesAlike_4 n μ f x1 x2 = some out → WH (fg G) b μ H → va_S (fb b) s.heap H locs → lv_has ls 3 [(0, .ref (b + 306)), (1, .int x1), (2, .int x2)] → W p l e ({ frames := 0, cells := 0, slots := 0, locals := 0 } : Room) s m args below meth c H locs 0 0 (MQ below (QW (fg G) b μ (some (.int out))) args s 0 0 (fb b)) (F0 m 4 ls []) := by
  have hx := F.1
  have hb := F.2.1
  intro f
  induction f with
  | zero =>
    intro _ _ _ _ _ h
    rw [sh_X12_arePagesAlike_4] at h
    cases h
  | succ f ih =>
    intro x1 x2  H locs ls h hW hS hl
    rw [sh_X12_arePagesAlike_4] at h
    have hk4 := ih
    refine lv_iload_n hx hb dX12_arePagesAlike_4 rfl (lv_at hl 2 rfl) ?_
    refine lv_aload_n hx hb dX12_arePagesAlike_5 rfl (lv_at hl 0 rfl) ?_
    refine fl_get12 (v := .ref (b + 307)) kyf_306 F hW 1 (by decide) q_1472 rfl rfl dX12_arePagesAlike_6 ?_
    refine lv_bipush (v := (9 : Int32)) hx hb dX12_arePagesAlike_9 (by decide) ?_
    obtain ⟨v1, qv1, h⟩ := ob h
    refine fm_iald kyf_307 F hW qv1 dX12_arePagesAlike_11 ?_
    refine lv_icmp_ge (tgt := 46) hx hb dX12_arePagesAlike_12 (by decide) (fun cc => ?_) (fun cc => ?_)
    · replace h := (if_pos cc).symm.trans h
      refine lv_iload_n hx hb dX12_arePagesAlike_46 rfl (lv_at hl 1 rfl) ?_
      obtain ⟨v2, qv2, h⟩ := ob h
      obtain ⟨zv2, qv2⟩ := isB_some qv2
      rw [qv2] at zv2
      rw [qv2]
      cases h
      exact r_bool F hr zv2 hW hS dX12_arePagesAlike_47
    · replace h := (if_neg cc).symm.trans h
      refine lv_iload_n hx hb dX12_arePagesAlike_15 rfl (lv_at hl 1 rfl) ?_
      refine lv_if_eq (tgt := 38) hx hb dX12_arePagesAlike_16 (by decide) (fun cc => ?_) (fun cc => ?_)
      · replace h := (if_pos cc).symm.trans h
        refine lv_iconst (v := (0 : Int32)) hx hb dX12_arePagesAlike_38 (by decide) ?_
        refine lv_istore_n (lv' := [(1, .int (0 : Int32)), (0, .ref (b + 306)), (2, .int x2)]) hx hb dX12_arePagesAlike_39 rfl hl (by decide) rfl (fun ls hl => ?_)
        refine lv_iinc (v := (x2 + (1 : Int32))) (lv' := [(2, .int (x2 + (1 : Int32))), (1, .int (0 : Int32)), (0, .ref (b + 306))]) hx hb dX12_arePagesAlike_40 hl (k := 2) rfl rfl (by decide) rfl (fun ls hl => ?_)
        refine lv_goto (tgt := 4) hx hb dX12_arePagesAlike_43 (by decide) ?_
        exact hk4 _ _ _ _ _ h hW hS (lv_sub hl [2, 1, 0] rfl)
      · replace h := (if_neg cc).symm.trans h
        refine lv_aload_n hx hb dX12_arePagesAlike_19 rfl (lv_at hl 0 rfl) ?_
        refine fl_get12 (v := .ref (b + 314)) kyf_306 F hW 21 (by decide) q_1492 rfl rfl dX12_arePagesAlike_20 ?_
        refine lv_iload_n hx hb dX12_arePagesAlike_23 rfl (lv_at hl 2 rfl) ?_
        obtain ⟨v3, qv3, h⟩ := ob h
        refine fm_iald kyf_314 F hW qv3 dX12_arePagesAlike_24 ?_
        refine lv_aload_n hx hb dX12_arePagesAlike_25 rfl (lv_at hl 0 rfl) ?_
        refine fl_get12 (v := .ref (b + 328)) kyf_306 F hW 45 (by decide) q_1516 rfl rfl dX12_arePagesAlike_26 ?_
        refine lv_iload_n hx hb dX12_arePagesAlike_29 rfl (lv_at hl 2 rfl) ?_
        obtain ⟨v4, qv4, h⟩ := ob h
        refine fm_iald kyf_328 F hW qv4 dX12_arePagesAlike_30 ?_
        refine lv_icmp_ne (tgt := 38) hx hb dX12_arePagesAlike_31 (by decide) (fun cc => ?_) (fun cc => ?_)
        · replace h := (if_neg cc).symm.trans h
          refine lv_iconst (v := (0 : Int32)) hx hb dX12_arePagesAlike_38 (by decide) ?_
          refine lv_istore_n (lv' := [(1, .int (0 : Int32)), (0, .ref (b + 306)), (2, .int x2)]) hx hb dX12_arePagesAlike_39 rfl hl (by decide) rfl (fun ls hl => ?_)
          refine lv_iinc (v := (x2 + (1 : Int32))) (lv' := [(2, .int (x2 + (1 : Int32))), (1, .int (0 : Int32)), (0, .ref (b + 306))]) hx hb dX12_arePagesAlike_40 hl (k := 2) rfl rfl (by decide) rfl (fun ls hl => ?_)
          refine lv_goto (tgt := 4) hx hb dX12_arePagesAlike_43 (by decide) ?_
          exact hk4 _ _ _ _ _ h hW hS (lv_sub hl [2, 1, 0] rfl)
        · replace h := (if_pos cc).symm.trans h
          refine lv_iconst (v := (1 : Int32)) hx hb dX12_arePagesAlike_34 (by decide) ?_
          refine lv_goto (tgt := 39) hx hb dX12_arePagesAlike_35 (by decide) ?_
          refine lv_istore_n (lv' := [(1, .int (1 : Int32)), (0, .ref (b + 306)), (2, .int x2)]) hx hb dX12_arePagesAlike_39 rfl hl (by decide) rfl (fun ls hl => ?_)
          refine lv_iinc (v := (x2 + (1 : Int32))) (lv' := [(2, .int (x2 + (1 : Int32))), (1, .int (1 : Int32)), (0, .ref (b + 306))]) hx hb dX12_arePagesAlike_40 hl (k := 2) rfl rfl (by decide) rfl (fun ls hl => ?_)
          refine lv_goto (tgt := 4) hx hb dX12_arePagesAlike_43 (by decide) ?_
          exact hk4 _ _ _ _ _ h hW hS (lv_sub hl [2, 1, 0] rfl)
set_option maxHeartbeats 4000000 in
set_option maxRecDepth 100000 in
theorem wk_X12_arePagesAlike {n : Nat} {μ : Mm} {out : Int32} (F : FX (fg G) b RX12 cX12_arePagesAlike 3 p s m args meth c) (hr : meth.sig.returnType = some .boolean) (h : sh_X12_arePagesAlike n  μ = some out) (hW : WH (fg G) b μ H) (hS : va_S (fb b) s.heap H locs) (hl : lv_has ls 3 [(0, .ref (b + 306))]) : W p l e ({ frames := 0, cells := 0, slots := 0, locals := 0 } : Room) s m args below meth c H locs 0 0 (MQ below (QW (fg G) b μ (some (.int out))) args s 0 0 (fb b)) (F0 m 0 ls []) := by
  have hx := F.1
  have hb := F.2.1
  unfold sh_X12_arePagesAlike at h
  refine lv_iconst (v := (1 : Int32)) hx hb dX12_arePagesAlike_0 (by decide) ?_
  refine lv_istore_n (lv' := [(1, .int (1 : Int32)), (0, .ref (b + 306))]) hx hb dX12_arePagesAlike_1 rfl hl (by decide) rfl (fun ls hl => ?_)
  refine lv_iconst (v := (0 : Int32)) hx hb dX12_arePagesAlike_2 (by decide) ?_
  refine lv_istore_n (lv' := [(2, .int (0 : Int32)), (1, .int (1 : Int32)), (0, .ref (b + 306))]) hx hb dX12_arePagesAlike_3 rfl hl (by decide) rfl (fun ls hl => ?_)
  exact wk_X12_arePagesAlike_4 F hr n _ _ _ _ _ h hW hS (lv_sub hl [2, 1, 0] rfl)
set_option maxHeartbeats 4000000 in
set_option maxRecDepth 100000 in
theorem c_X12_arePagesAlike {l : Launch} {G : Gt} {b : Nat} {n : Nat} {μ : Mm} {out : Int32} (h : sh_X12_arePagesAlike n  μ = some out) : Met l yX12_arePagesAlike (wU (Cond.code yX12_arePagesAlike cX12_arePagesAlike 3 (some .boolean))) ({ frames := 0, cells := 0, slots := 0, locals := 0 } : Room) (PcW (fg G) b μ [.ref (b + 306)]) (QW (fg G) b μ (some (.int out))) 0 0 (fb b) :=
  met_of [.ref (b + 306)] (by decide) (Nat.le_of_ble_eq_true rfl) (fun F hr hW hl => wk_X12_arePagesAlike F hr h hW va_S.rf hl)
set_option maxHeartbeats 4000000 in
set_option maxRecDepth 100000 in
theorem k_X12_arePagesAlike {own : String} {nL : Nat} (F : FX (fg G) b own cc nL p s m args meth c) {n : Nat} {μ : Mm} {out : Int32} (h : sh_X12_arePagesAlike n  μ = some out) {index : Nat} (hl : Cond.methodLink own index yX12_arePagesAlike ∈ TBG) (hR : 0 + 1 ≤ R.frames ∧ 8 + (3 + 11) + 0 ≤ R.locals ∧ cells ≤ R.cells ∧ slots ≤ R.slots) (hW : WH (fg G) b μ H) (hS : va_S (fb b) s.heap H locs) (hsz : ls.size = nL) (hrest : (rest.map fun v => v.category).sum ≤ 8) (hdg : decode cc pc = .ok (.invokevirtual index, 3))
    (kk : ∀ (H1 : Heap) (locs1 : List Loc), WH (fg G) b μ H1 → va_S (fb b) s.heap H1 locs1 → W p l e R s m args below meth c H1 locs1 cells slots Q (F0 m (pc + 3) ls (.int out :: rest))) : W p l e R s m args below meth c H locs cells slots Q (F0 m pc ls (.ref (b + 306) :: rest)) :=
  f_callV (As := []) (ci := 12) (c_X12_arePagesAlike h) ⟨rfl, rfl⟩ rfl (ky_lm kyf_306 (by decide)) (wF_12 kyf_306) q_2116 qp_114 q_14 q_2117 rfl ⟨by decide +kernel, by decide +kernel, (show (parseMethodDescriptor yX12_arePagesAlike.desc).map (fun d => d.parameters.length) = some 0 by decide +kernel)⟩ F hl hR hW hS hsz hrest rfl hdg kk
set_option maxHeartbeats 4000000 in
set_option maxRecDepth 100000 in
theorem wk_X12_slack_101 {n : Nat} {a1 : Int32} {x2 : Int32} {x3 : Int32} {μ : Mm} {out : (Int32 × Mm)} (F : FX (fg G) b RX12 cX12_slack 5 p s m args meth c) (hr : meth.sig.returnType = some .int) (h : sh_X12_slack_101 n a1 x2 x3 μ = some out) (hW : WH (fg G) b μ H) (hS : va_S (fb b) s.heap H locs) (hl : lv_has ls 5 [(0, .ref (b + 306)), (1, .int a1), (2, .int x2), (3, .int x3)]) : W p l e ({ frames := 10, cells := 0, slots := 0, locals := 226 } : Room) s m args below meth c H locs 0 0 (MQ below (QW (fg G) b out.2 (some (.int out.1))) args s 0 0 (fb b)) (F0 m 101 ls []) := by
  have hx := F.1
  have hb := F.2.1
  unfold sh_X12_slack_101 at h
  refine lv_aload_n hx hb dX12_slack_101 rfl (lv_at hl 0 rfl) ?_
  refine lv_iload_n hx hb dX12_slack_102 rfl (lv_at hl 1 rfl) ?_
  refine lv_iconst (v := (1 : Int32)) hx hb dX12_slack_103 (by decide) ?_
  refine lv_iload_n hx hb dX12_slack_104 rfl (lv_at hl 2 rfl) ?_
  obtain ⟨r4, qr4, h⟩ := ob h
  refine k_X12_set F qr4 q_1727 ⟨Nat.le_of_ble_eq_true rfl, Nat.le_of_ble_eq_true rfl, Nat.le_of_ble_eq_true rfl, Nat.le_of_ble_eq_true rfl⟩ hW hS hl.1 (Nat.le_of_ble_eq_true rfl) dX12_slack_105 (fun H locs hW hS => ?_)
  refine lv_iload_n hx hb dX12_slack_108 rfl (lv_at hl 3 rfl) ?_
  cases h
  exact r_int F hr hW hS dX12_slack_109
set_option maxHeartbeats 4000000 in
set_option maxRecDepth 100000 in
theorem wk_X12_slack_53 {n : Nat} {a1 : Int32} {out : (Int32 × Mm)} (F : FX (fg G) b RX12 cX12_slack 5 p s m args meth c) (hr : meth.sig.returnType = some .int) : ∀ (f : Nat) (x2 : Int32) (x3 : Int32) (x4 : Int32) (μ : Mm) (H : Heap) (locs : List Loc) (ls : Array Slot), sh_X12_slack_53 n a1 f x2 x3 x4 μ = some out → WH (fg G) b μ H → va_S (fb b) s.heap H locs → lv_has ls 5 [(0, .ref (b + 306)), (1, .int a1), (2, .int x2), (3, .int x3), (4, .int x4)] → W p l e ({ frames := 10, cells := 0, slots := 0, locals := 226 } : Room) s m args below meth c H locs 0 0 (MQ below (QW (fg G) b out.2 (some (.int out.1))) args s 0 0 (fb b)) (F0 m 53 ls []) := by
  have hx := F.1
  have hb := F.2.1
  intro f
  induction f with
  | zero =>
    intro _ _ _ _ _ _ _ h
    rw [sh_X12_slack_53] at h
    cases h
  | succ f ih =>
    intro x2 x3 x4 μ H locs ls h hW hS hl
    rw [sh_X12_slack_53] at h
    have hk53 := ih
    refine lv_iload_n hx hb dX12_slack_53 rfl (lv_at hl 3 rfl) ?_
    refine lv_bipush (v := (99 : Int32)) hx hb dX12_slack_54 (by decide) ?_
    refine lv_icmp_ge (tgt := 101) hx hb dX12_slack_56 (by decide) (fun cc => ?_) (fun cc => ?_)
    · replace h := (if_pos cc).symm.trans h
      exact wk_X12_slack_101 F hr h hW hS (lv_sub hl [0, 1, 2, 3] rfl)
    · replace h := (if_neg cc).symm.trans h
      refine lv_iload hx hb dX12_slack_59 (lv_at hl 4 rfl) ?_
      refine lv_if_eq (tgt := 101) hx hb dX12_slack_61 (by decide) (fun cc => ?_) (fun cc => ?_)
      · replace h := (if_pos cc).symm.trans h
        exact wk_X12_slack_101 F hr h hW hS (lv_sub hl [0, 1, 2, 3] rfl)
      · replace h := (if_neg cc).symm.trans h
        refine lv_aload_n hx hb dX12_slack_64 rfl (lv_at hl 0 rfl) ?_
        refine lv_iload_n hx hb dX12_slack_65 rfl (lv_at hl 1 rfl) ?_
        refine lv_iconst (v := (1 : Int32)) hx hb dX12_slack_66 (by decide) ?_
        refine lv_iload_n hx hb dX12_slack_67 rfl (lv_at hl 2 rfl) ?_
        refine lv_iload_n hx hb dX12_slack_68 rfl (lv_at hl 3 rfl) ?_
        refine lv_iadd hx hb dX12_slack_69 ?_
        refine lv_iconst (v := (1 : Int32)) hx hb dX12_slack_70 (by decide) ?_
        refine lv_iadd hx hb dX12_slack_71 ?_
        obtain ⟨r5, qr5, h⟩ := ob h
        refine k_X12_set F qr5 q_1727 ⟨Nat.le_of_ble_eq_true rfl, Nat.le_of_ble_eq_true rfl, Nat.le_of_ble_eq_true rfl, Nat.le_of_ble_eq_true rfl⟩ hW hS hl.1 (Nat.le_of_ble_eq_true rfl) dX12_slack_72 (fun H locs hW hS => ?_)
        refine lv_aload_n hx hb dX12_slack_75 rfl (lv_at hl 0 rfl) ?_
        obtain ⟨r6, qr6, h⟩ := ob h
        refine k_X12_lay F qr6 q_1764 ⟨Nat.le_of_ble_eq_true rfl, Nat.le_of_ble_eq_true rfl, Nat.le_of_ble_eq_true rfl, Nat.le_of_ble_eq_true rfl⟩ hW hS hl.1 (Nat.le_of_ble_eq_true rfl) dX12_slack_76 (fun H locs hW hS => ?_)
        refine lv_aload_n hx hb dX12_slack_79 rfl (lv_at hl 0 rfl) ?_
        obtain ⟨r7, qr7, h⟩ := ob h
        refine k_X12_arePagesAlike F qr7 q_2114 ⟨Nat.le_of_ble_eq_true rfl, Nat.le_of_ble_eq_true rfl, Nat.le_of_ble_eq_true rfl, Nat.le_of_ble_eq_true rfl⟩ hW hS hl.1 (Nat.le_of_ble_eq_true rfl) dX12_slack_80 (fun H locs hW hS => ?_)
        refine lv_istore (lv' := [(4, .int r7), (0, .ref (b + 306)), (1, .int a1), (2, .int x2), (3, .int x3)]) hx hb dX12_slack_83 hl (by decide) rfl (fun ls hl => ?_)
        refine lv_iload_n hx hb dX12_slack_85 rfl (lv_at hl 4 rfl) ?_
        refine lv_iload hx hb dX12_slack_86 (lv_at hl 0 rfl) ?_
        refine lv_if_eq (tgt := 95) hx hb dX12_slack_88 (by decide) (fun cc => ?_) (fun cc => ?_)
        · replace h := (if_pos cc).symm.trans h
          refine lv_iconst (v := (0 : Int32)) hx hb dX12_slack_95 (by decide) ?_
          refine lv_iadd hx hb dX12_slack_96 ?_
          obtain ⟨v8, ev8⟩ : ∃ y, y = (x3 + (0 : Int32)) := ⟨_, rfl⟩
          have h := nm_at ev8 h
          rw [← ev8]
          refine lv_istore_n (lv' := [(3, .int v8), (4, .int r7), (0, .ref (b + 306)), (1, .int a1), (2, .int x2)]) hx hb dX12_slack_97 rfl hl (by decide) rfl (fun ls hl => ?_)
          refine lv_goto (tgt := 53) hx hb dX12_slack_98 (by decide) ?_
          exact hk53 _ _ _ _ _ _ _ h hW hS (lv_sub hl [2, 3, 4, 0, 1] rfl)
        · replace h := (if_neg cc).symm.trans h
          refine lv_iconst (v := (1 : Int32)) hx hb dX12_slack_91 (by decide) ?_
          refine lv_goto (tgt := 96) hx hb dX12_slack_92 (by decide) ?_
          refine lv_iadd hx hb dX12_slack_96 ?_
          obtain ⟨v9, ev9⟩ : ∃ y, y = (x3 + (1 : Int32)) := ⟨_, rfl⟩
          have h := nm_at ev9 h
          rw [← ev9]
          refine lv_istore_n (lv' := [(3, .int v9), (4, .int r7), (0, .ref (b + 306)), (1, .int a1), (2, .int x2)]) hx hb dX12_slack_97 rfl hl (by decide) rfl (fun ls hl => ?_)
          refine lv_goto (tgt := 53) hx hb dX12_slack_98 (by decide) ?_
          exact hk53 _ _ _ _ _ _ _ h hW hS (lv_sub hl [2, 3, 4, 0, 1] rfl)
set_option maxHeartbeats 4000000 in
set_option maxRecDepth 100000 in
theorem wk_X12_slack_12 {n : Nat} {a1 : Int32} {out : (Int32 × Mm)} (F : FX (fg G) b RX12 cX12_slack 5 p s m args meth c) (hr : meth.sig.returnType = some .int) : ∀ (f : Nat) (x2 : Int32) (μ : Mm) (H : Heap) (locs : List Loc) (ls : Array Slot), sh_X12_slack_12 n a1 f x2 μ = some out → WH (fg G) b μ H → va_S (fb b) s.heap H locs → lv_has ls 5 [(0, .ref (b + 306)), (1, .int a1), (2, .int x2)] → W p l e ({ frames := 10, cells := 0, slots := 0, locals := 226 } : Room) s m args below meth c H locs 0 0 (MQ below (QW (fg G) b out.2 (some (.int out.1))) args s 0 0 (fb b)) (F0 m 12 ls []) := by
  have hx := F.1
  have hb := F.2.1
  intro f
  induction f with
  | zero =>
    intro _ _ _ _ _ h
    rw [sh_X12_slack_12] at h
    cases h
  | succ f ih =>
    intro x2 μ H locs ls h hW hS hl
    rw [sh_X12_slack_12] at h
    have hk12 := ih
    refine lv_iload_n hx hb dX12_slack_12 rfl (lv_at hl 2 rfl) ?_
    refine lv_aload_n hx hb dX12_slack_13 rfl (lv_at hl 0 rfl) ?_
    refine fl_get12 (v := .ref (b + 307)) kyf_306 F hW 1 (by decide) q_1472 rfl rfl dX12_slack_14 ?_
    refine lv_bipush (v := (9 : Int32)) hx hb dX12_slack_17 (by decide) ?_
    obtain ⟨v2, qv2, h⟩ := ob h
    refine fm_iald kyf_307 F hW qv2 dX12_slack_19 ?_
    refine lv_icmp_ge (tgt := 41) hx hb dX12_slack_20 (by decide) (fun cc => ?_) (fun cc => ?_)
    · replace h := (if_pos cc).symm.trans h
      refine lv_aload_n hx hb dX12_slack_41 rfl (lv_at hl 0 rfl) ?_
      refine lv_iload_n hx hb dX12_slack_42 rfl (lv_at hl 1 rfl) ?_
      refine lv_iconst (v := (1 : Int32)) hx hb dX12_slack_43 (by decide) ?_
      obtain ⟨r3, qr3, h⟩ := ob h
      refine k_X12_of F qr3 q_1735 ⟨Nat.le_of_ble_eq_true rfl, Nat.le_of_ble_eq_true rfl, Nat.le_of_ble_eq_true rfl, Nat.le_of_ble_eq_true rfl⟩ hW hS hl.1 (Nat.le_of_ble_eq_true rfl) dX12_slack_44 (fun H locs hW hS => ?_)
      refine lv_istore_n (lv' := [(2, .int r3), (0, .ref (b + 306)), (1, .int a1)]) hx hb dX12_slack_47 rfl hl (by decide) rfl (fun ls hl => ?_)
      refine lv_iconst (v := (0 : Int32)) hx hb dX12_slack_48 (by decide) ?_
      refine lv_istore_n (lv' := [(3, .int (0 : Int32)), (2, .int r3), (0, .ref (b + 306)), (1, .int a1)]) hx hb dX12_slack_49 rfl hl (by decide) rfl (fun ls hl => ?_)
      refine lv_iconst (v := (1 : Int32)) hx hb dX12_slack_50 (by decide) ?_
      refine lv_istore (lv' := [(4, .int (1 : Int32)), (3, .int (0 : Int32)), (2, .int r3), (0, .ref (b + 306)), (1, .int a1)]) hx hb dX12_slack_51 hl (by decide) rfl (fun ls hl => ?_)
      exact wk_X12_slack_53 F hr n _ _ _ _ _ _ _ h hW hS (lv_sub hl [3, 4, 2, 1, 0] rfl)
    · replace h := (if_neg cc).symm.trans h
      refine lv_aload_n hx hb dX12_slack_23 rfl (lv_at hl 0 rfl) ?_
      refine fl_get12 (v := .ref (b + 328)) kyf_306 F hW 45 (by decide) q_1516 rfl rfl dX12_slack_24 ?_
      refine lv_iload_n hx hb dX12_slack_27 rfl (lv_at hl 2 rfl) ?_
      refine lv_aload_n hx hb dX12_slack_28 rfl (lv_at hl 0 rfl) ?_
      refine fl_get12 (v := .ref (b + 314)) kyf_306 F hW 21 (by decide) q_1492 rfl rfl dX12_slack_29 ?_
      refine lv_iload_n hx hb dX12_slack_32 rfl (lv_at hl 2 rfl) ?_
      obtain ⟨v10, qv10, h⟩ := ob h
      refine fm_iald kyf_314 F hW qv10 dX12_slack_33 ?_
      obtain ⟨μ11, qμ11, h⟩ := ob h
      refine fm_iast kyf_328 F hW hS qμ11 dX12_slack_34 (fun H locs hW hS => ?_)
      refine lv_iinc (v := (x2 + (1 : Int32))) (lv' := [(2, .int (x2 + (1 : Int32))), (0, .ref (b + 306)), (1, .int a1)]) hx hb dX12_slack_35 hl (k := 2) rfl rfl (by decide) rfl (fun ls hl => ?_)
      refine lv_goto (tgt := 12) hx hb dX12_slack_38 (by decide) ?_
      exact hk12 _ _ _ _ _ h hW hS (lv_sub hl [1, 2, 0] rfl)
set_option maxHeartbeats 4000000 in
set_option maxRecDepth 100000 in
theorem wk_X12_slack {n : Nat} {a1 : Int32} {μ : Mm} {out : (Int32 × Mm)} (F : FX (fg G) b RX12 cX12_slack 5 p s m args meth c) (hr : meth.sig.returnType = some .int) (h : sh_X12_slack n a1 μ = some out) (hW : WH (fg G) b μ H) (hS : va_S (fb b) s.heap H locs) (hl : lv_has ls 5 [(0, .ref (b + 306)), (1, .int a1)]) : W p l e ({ frames := 10, cells := 0, slots := 0, locals := 226 } : Room) s m args below meth c H locs 0 0 (MQ below (QW (fg G) b out.2 (some (.int out.1))) args s 0 0 (fb b)) (F0 m 0 ls []) := by
  have hx := F.1
  have hb := F.2.1
  unfold sh_X12_slack at h
  refine lv_aload_n hx hb dX12_slack_0 rfl (lv_at hl 0 rfl) ?_
  refine lv_iload_n hx hb dX12_slack_1 rfl (lv_at hl 1 rfl) ?_
  obtain ⟨r1, qr1, h⟩ := ob h
  refine k_X12_asks F qr1 q_1893 ⟨Nat.le_of_ble_eq_true rfl, Nat.le_of_ble_eq_true rfl, Nat.le_of_ble_eq_true rfl, Nat.le_of_ble_eq_true rfl⟩ hW hS hl.1 (Nat.le_of_ble_eq_true rfl) dX12_slack_2 (fun H locs hW hS => ?_)
  refine lv_if_ne (tgt := 10) hx hb dX12_slack_5 (by decide) (fun cc => ?_) (fun cc => ?_)
  · replace h := (if_neg cc).symm.trans h
    refine lv_iconst (v := (0 : Int32)) hx hb dX12_slack_10 (by decide) ?_
    refine lv_istore_n (lv' := [(2, .int (0 : Int32)), (0, .ref (b + 306)), (1, .int a1)]) hx hb dX12_slack_11 rfl hl (by decide) rfl (fun ls hl => ?_)
    exact wk_X12_slack_12 F hr n _ _ _ _ _ h hW hS (lv_sub hl [1, 2, 0] rfl)
  · replace h := (if_pos cc).symm.trans h
    refine lv_iconst (v := (0 : Int32)) hx hb dX12_slack_8 (by decide) ?_
    cases h
    exact r_int F hr hW hS dX12_slack_9
set_option maxHeartbeats 4000000 in
set_option maxRecDepth 100000 in
theorem c_X12_slack {l : Launch} {G : Gt} {b : Nat} {n : Nat} {a1 : Int32} {μ : Mm} {out : (Int32 × Mm)} (h : sh_X12_slack n a1 μ = some out) : Met l yX12_slack (wU (Cond.code yX12_slack cX12_slack 5 (some .int))) ({ frames := 10, cells := 0, slots := 0, locals := 226 } : Room) (PcW (fg G) b μ [.ref (b + 306), .int a1]) (QW (fg G) b out.2 (some (.int out.1))) 0 0 (fb b) :=
  met_of [.ref (b + 306), .int a1] (by decide) (Nat.le_of_ble_eq_true rfl) (fun F hr hW hl => wk_X12_slack F hr h hW va_S.rf hl)
set_option maxHeartbeats 4000000 in
set_option maxRecDepth 100000 in
theorem k_X12_slack {own : String} {nL : Nat} (F : FX (fg G) b own cc nL p s m args meth c) {n : Nat} {a1 : Int32} {μ : Mm} {out : (Int32 × Mm)} (h : sh_X12_slack n a1 μ = some out) {index : Nat} (hl : Cond.methodLink own index yX12_slack ∈ TBG) (hR : 10 + 1 ≤ R.frames ∧ 8 + (5 + 11) + 226 ≤ R.locals ∧ cells ≤ R.cells ∧ slots ≤ R.slots) (hW : WH (fg G) b μ H) (hS : va_S (fb b) s.heap H locs) (hsz : ls.size = nL) (hrest : (rest.map fun v => v.category).sum ≤ 8) (hdg : decode cc pc = .ok (.invokevirtual index, 3))
    (kk : ∀ (H1 : Heap) (locs1 : List Loc), WH (fg G) b out.2 H1 → va_S (fb b) s.heap H1 locs1 → W p l e R s m args below meth c H1 locs1 cells slots Q (F0 m (pc + 3) ls (.int out.1 :: rest))) : W p l e R s m args below meth c H locs cells slots Q (F0 m pc ls (.int a1 :: .ref (b + 306) :: rest)) :=
  f_callV (As := [.int a1]) (ci := 12) (c_X12_slack h) ⟨rfl, rfl⟩ rfl (ky_lm kyf_306 (by decide)) (wF_12 kyf_306) q_2111 q_2112 q_14 q_2113 rfl ⟨by decide +kernel, by decide +kernel, (show (parseMethodDescriptor yX12_slack.desc).map (fun d => d.parameters.length) = some 1 by decide +kernel)⟩ F hl hR hW hS hsz hrest rfl hdg kk
set_option maxHeartbeats 4000000 in
set_option maxRecDepth 100000 in
theorem wk_X12_pagesIf {n : Nat} {a1 : Int32} {a2 : Int32} {μ : Mm} {out : (Int32 × Mm)} (F : FX (fg G) b RX12 cX12_pagesIf 4 p s m args meth c) (hr : meth.sig.returnType = some .int) (h : sh_X12_pagesIf n a1 a2 μ = some out) (hW : WH (fg G) b μ H) (hS : va_S (fb b) s.heap H locs) (hl : lv_has ls 4 [(0, .ref (b + 306)), (1, .int a1), (2, .int a2)]) : W p l e ({ frames := 9, cells := 0, slots := 0, locals := 205 } : Room) s m args below meth c H locs 0 0 (MQ below (QW (fg G) b out.2 (some (.int out.1))) args s 0 0 (fb b)) (F0 m 0 ls []) := by
  have hx := F.1
  have hb := F.2.1
  unfold sh_X12_pagesIf at h
  refine lv_aload_n hx hb dX12_pagesIf_0 rfl (lv_at hl 0 rfl) ?_
  refine lv_aload_n hx hb dX12_pagesIf_1 rfl (lv_at hl 0 rfl) ?_
  refine lv_iload_n hx hb dX12_pagesIf_2 rfl (lv_at hl 1 rfl) ?_
  obtain ⟨r1, qr1, h⟩ := ob h
  refine k_X12_isSection F qr1 q_1868 ⟨Nat.le_of_ble_eq_true rfl, Nat.le_of_ble_eq_true rfl, Nat.le_of_ble_eq_true rfl, Nat.le_of_ble_eq_true rfl⟩ hW hS hl.1 (Nat.le_of_ble_eq_true rfl) dX12_pagesIf_3 (fun H locs hW hS => ?_)
  refine lv_iload_n hx hb dX12_pagesIf_6 rfl (lv_at hl 2 rfl) ?_
  refine lv_i2l hx hb dX12_pagesIf_7 rfl ?_
  refine lv_lconst (v := (0 : Int64)) hx hb dX12_pagesIf_8 (by decide) ?_
  refine lv_ldc2 hx hb F.2.2.2.1 (F.2.2.2.2.1 _ q_2022) dX12_pagesIf_9 ?_
  obtain ⟨r2, qr2, h⟩ := ob h
  refine k_X12_in F qr2 q_1643 ⟨Nat.le_of_ble_eq_true rfl, Nat.le_of_ble_eq_true rfl, Nat.le_of_ble_eq_true rfl, Nat.le_of_ble_eq_true rfl⟩ hW hS hl.1 (Nat.le_of_ble_eq_true rfl) dX12_pagesIf_12 (fun H locs hW hS => ?_)
  obtain ⟨r3, qr3, h⟩ := ob h
  refine k_X12_passes2 F qr3 q_1873 ⟨Nat.le_of_ble_eq_true rfl, Nat.le_of_ble_eq_true rfl, Nat.le_of_ble_eq_true rfl, Nat.le_of_ble_eq_true rfl⟩ hW hS hl.1 (Nat.le_of_ble_eq_true rfl) dX12_pagesIf_15 (fun H locs hW hS => ?_)
  refine lv_if_ne (tgt := 23) hx hb dX12_pagesIf_18 (by decide) (fun cc => ?_) (fun cc => ?_)
  · replace h := (if_neg cc).symm.trans h
    refine lv_aload_n hx hb dX12_pagesIf_23 rfl (lv_at hl 0 rfl) ?_
    refine lv_iload_n hx hb dX12_pagesIf_24 rfl (lv_at hl 1 rfl) ?_
    refine lv_iconst (v := (1 : Int32)) hx hb dX12_pagesIf_25 (by decide) ?_
    obtain ⟨r4, qr4, h⟩ := ob h
    refine k_X12_of F qr4 q_1735 ⟨Nat.le_of_ble_eq_true rfl, Nat.le_of_ble_eq_true rfl, Nat.le_of_ble_eq_true rfl, Nat.le_of_ble_eq_true rfl⟩ hW hS hl.1 (Nat.le_of_ble_eq_true rfl) dX12_pagesIf_26 (fun H locs hW hS => ?_)
    refine lv_istore_n (lv' := [(3, .int r4), (0, .ref (b + 306)), (1, .int a1), (2, .int a2)]) hx hb dX12_pagesIf_29 rfl hl (by decide) rfl (fun ls hl => ?_)
    refine lv_aload_n hx hb dX12_pagesIf_30 rfl (lv_at hl 1 rfl) ?_
    refine lv_iload_n hx hb dX12_pagesIf_31 rfl (lv_at hl 2 rfl) ?_
    refine lv_iconst (v := (1 : Int32)) hx hb dX12_pagesIf_32 (by decide) ?_
    refine lv_iload_n hx hb dX12_pagesIf_33 rfl (lv_at hl 3 rfl) ?_
    obtain ⟨r5, qr5, h⟩ := ob h
    refine k_X12_set F qr5 q_1727 ⟨Nat.le_of_ble_eq_true rfl, Nat.le_of_ble_eq_true rfl, Nat.le_of_ble_eq_true rfl, Nat.le_of_ble_eq_true rfl⟩ hW hS hl.1 (Nat.le_of_ble_eq_true rfl) dX12_pagesIf_34 (fun H locs hW hS => ?_)
    refine lv_aload_n hx hb dX12_pagesIf_37 rfl (lv_at hl 1 rfl) ?_
    obtain ⟨r6, qr6, h⟩ := ob h
    refine k_X12_lay F qr6 q_1764 ⟨Nat.le_of_ble_eq_true rfl, Nat.le_of_ble_eq_true rfl, Nat.le_of_ble_eq_true rfl, Nat.le_of_ble_eq_true rfl⟩ hW hS hl.1 (Nat.le_of_ble_eq_true rfl) dX12_pagesIf_38 (fun H locs hW hS => ?_)
    refine lv_aload_n hx hb dX12_pagesIf_41 rfl (lv_at hl 1 rfl) ?_
    refine lv_iload_n hx hb dX12_pagesIf_42 rfl (lv_at hl 2 rfl) ?_
    refine lv_iconst (v := (1 : Int32)) hx hb dX12_pagesIf_43 (by decide) ?_
    refine lv_iload_n hx hb dX12_pagesIf_44 rfl (lv_at hl 0 rfl) ?_
    obtain ⟨r7, qr7, h⟩ := ob h
    refine k_X12_set F qr7 q_1727 ⟨Nat.le_of_ble_eq_true rfl, Nat.le_of_ble_eq_true rfl, Nat.le_of_ble_eq_true rfl, Nat.le_of_ble_eq_true rfl⟩ hW hS hl.1 (Nat.le_of_ble_eq_true rfl) dX12_pagesIf_45 (fun H locs hW hS => ?_)
    refine lv_aload_n hx hb dX12_pagesIf_48 rfl (lv_at hl 1 rfl) ?_
    refine fl_get12 (v := .int (r7.1 306 24)) kyf_306 F hW 24 (by decide) q_1495 rfl rfl dX12_pagesIf_49 ?_
    cases h
    exact r_int F hr hW hS dX12_pagesIf_52
  · replace h := (if_pos cc).symm.trans h
    refine lv_iconst (v := (0 : Int32)) hx hb dX12_pagesIf_21 (by decide) ?_
    cases h
    exact r_int F hr hW hS dX12_pagesIf_22
set_option maxHeartbeats 4000000 in
set_option maxRecDepth 100000 in
theorem c_X12_pagesIf {l : Launch} {G : Gt} {b : Nat} {n : Nat} {a1 : Int32} {a2 : Int32} {μ : Mm} {out : (Int32 × Mm)} (h : sh_X12_pagesIf n a1 a2 μ = some out) : Met l yX12_pagesIf (wU (Cond.code yX12_pagesIf cX12_pagesIf 4 (some .int))) ({ frames := 9, cells := 0, slots := 0, locals := 205 } : Room) (PcW (fg G) b μ [.ref (b + 306), .int a1, .int a2]) (QW (fg G) b out.2 (some (.int out.1))) 0 0 (fb b) :=
  met_of [.ref (b + 306), .int a1, .int a2] (by decide) (Nat.le_of_ble_eq_true rfl) (fun F hr hW hl => wk_X12_pagesIf F hr h hW va_S.rf hl)
set_option maxHeartbeats 4000000 in
set_option maxRecDepth 100000 in
theorem k_X12_pagesIf {own : String} {nL : Nat} (F : FX (fg G) b own cc nL p s m args meth c) {n : Nat} {a1 : Int32} {a2 : Int32} {μ : Mm} {out : (Int32 × Mm)} (h : sh_X12_pagesIf n a1 a2 μ = some out) {index : Nat} (hl : Cond.methodLink own index yX12_pagesIf ∈ TBG) (hR : 9 + 1 ≤ R.frames ∧ 8 + (4 + 11) + 205 ≤ R.locals ∧ cells ≤ R.cells ∧ slots ≤ R.slots) (hW : WH (fg G) b μ H) (hS : va_S (fb b) s.heap H locs) (hsz : ls.size = nL) (hrest : (rest.map fun v => v.category).sum ≤ 8) (hdg : decode cc pc = .ok (.invokevirtual index, 3))
    (kk : ∀ (H1 : Heap) (locs1 : List Loc), WH (fg G) b out.2 H1 → va_S (fb b) s.heap H1 locs1 → W p l e R s m args below meth c H1 locs1 cells slots Q (F0 m (pc + 3) ls (.int out.1 :: rest))) : W p l e R s m args below meth c H locs cells slots Q (F0 m pc ls (.int a2 :: .int a1 :: .ref (b + 306) :: rest)) :=
  f_callV (As := [.int a1, .int a2]) (ci := 12) (c_X12_pagesIf h) ⟨rfl, rfl⟩ rfl (ky_lm kyf_306 (by decide)) (wF_12 kyf_306) q_2119 q_2120 q_14 q_2121 rfl ⟨by decide +kernel, by decide +kernel, (show (parseMethodDescriptor yX12_pagesIf.desc).map (fun d => d.parameters.length) = some 2 by decide +kernel)⟩ F hl hR hW hS hsz hrest rfl hdg kk
set_option maxHeartbeats 4000000 in
set_option maxRecDepth 100000 in
theorem wk_X12_leastWidth_31 {n : Nat} {a1 : Int32} {out : (Int32 × Mm)} (F : FX (fg G) b RX12 cX12_leastWidth 5 p s m args meth c) (hr : meth.sig.returnType = some .int) : ∀ (f : Nat) (x2 : Int32) (x3 : Int32) (x4 : Int32) (μ : Mm) (H : Heap) (locs : List Loc) (ls : Array Slot), sh_X12_leastWidth_31 n a1 f x2 x3 x4 μ = some out → WH (fg G) b μ H → va_S (fb b) s.heap H locs → lv_has ls 5 [(0, .ref (b + 306)), (1, .int a1), (2, .int x2), (3, .int x3), (4, .int x4)] → W p l e ({ frames := 9, cells := 0, slots := 0, locals := 205 } : Room) s m args below meth c H locs 0 0 (MQ below (QW (fg G) b out.2 (some (.int out.1))) args s 0 0 (fb b)) (F0 m 31 ls []) := by
  have hx := F.1
  have hb := F.2.1
  intro f
  induction f with
  | zero =>
    intro _ _ _ _ _ _ _ h
    rw [sh_X12_leastWidth_31] at h
    cases h
  | succ f ih =>
    intro x2 x3 x4 μ H locs ls h hW hS hl
    rw [sh_X12_leastWidth_31] at h
    have hk31 := ih
    refine lv_iload hx hb dX12_leastWidth_31 (lv_at hl 4 rfl) ?_
    refine lv_bipush (v := (120 : Int32)) hx hb dX12_leastWidth_33 (by decide) ?_
    refine lv_icmp_gt (tgt := 76) hx hb dX12_leastWidth_35 (by decide) (fun cc => ?_) (fun cc => ?_)
    · replace h := (if_pos cc).symm.trans h
      refine lv_aload_n hx hb dX12_leastWidth_76 rfl (lv_at hl 0 rfl) ?_
      refine fl_get12 (v := .ref (b + 307)) kyf_306 F hW 1 (by decide) q_1472 rfl rfl dX12_leastWidth_77 ?_
      refine lv_iconst (v := (0 : Int32)) hx hb dX12_leastWidth_80 (by decide) ?_
      refine lv_iload_n hx hb dX12_leastWidth_81 rfl (lv_at hl 2 rfl) ?_
      obtain ⟨μ4, qμ4, h⟩ := ob h
      refine fm_iast kyf_307 F hW hS qμ4 dX12_leastWidth_82 (fun H locs hW hS => ?_)
      refine lv_iload_n hx hb dX12_leastWidth_83 rfl (lv_at hl 3 rfl) ?_
      cases h
      exact r_int F hr hW hS dX12_leastWidth_84
    · replace h := (if_neg cc).symm.trans h
      refine lv_iload_n hx hb dX12_leastWidth_38 rfl (lv_at hl 3 rfl) ?_
      refine lv_iconst (v := (-1 : Int32)) hx hb dX12_leastWidth_39 (by decide) ?_
      refine lv_icmp_ne (tgt := 76) hx hb dX12_leastWidth_40 (by decide) (fun cc => ?_) (fun cc => ?_)
      · replace h := (if_neg cc).symm.trans h
        refine lv_aload_n hx hb dX12_leastWidth_76 rfl (lv_at hl 0 rfl) ?_
        refine fl_get12 (v := .ref (b + 307)) kyf_306 F hW 1 (by decide) q_1472 rfl rfl dX12_leastWidth_77 ?_
        refine lv_iconst (v := (0 : Int32)) hx hb dX12_leastWidth_80 (by decide) ?_
        refine lv_iload_n hx hb dX12_leastWidth_81 rfl (lv_at hl 2 rfl) ?_
        obtain ⟨μ5, qμ5, h⟩ := ob h
        refine fm_iast kyf_307 F hW hS qμ5 dX12_leastWidth_82 (fun H locs hW hS => ?_)
        refine lv_iload_n hx hb dX12_leastWidth_83 rfl (lv_at hl 3 rfl) ?_
        cases h
        exact r_int F hr hW hS dX12_leastWidth_84
      · replace h := (if_pos cc).symm.trans h
        refine lv_aload_n hx hb dX12_leastWidth_43 rfl (lv_at hl 0 rfl) ?_
        refine fl_get12 (v := .ref (b + 307)) kyf_306 F hW 1 (by decide) q_1472 rfl rfl dX12_leastWidth_44 ?_
        refine lv_iconst (v := (0 : Int32)) hx hb dX12_leastWidth_47 (by decide) ?_
        refine lv_iload hx hb dX12_leastWidth_48 (lv_at hl 4 rfl) ?_
        obtain ⟨μ6, qμ6, h⟩ := ob h
        refine fm_iast kyf_307 F hW hS qμ6 dX12_leastWidth_50 (fun H locs hW hS => ?_)
        refine lv_aload_n hx hb dX12_leastWidth_51 rfl (lv_at hl 0 rfl) ?_
        obtain ⟨r7, qr7, h⟩ := ob h
        refine k_X12_lay F qr7 q_1764 ⟨Nat.le_of_ble_eq_true rfl, Nat.le_of_ble_eq_true rfl, Nat.le_of_ble_eq_true rfl, Nat.le_of_ble_eq_true rfl⟩ hW hS hl.1 (Nat.le_of_ble_eq_true rfl) dX12_leastWidth_52 (fun H locs hW hS => ?_)
        refine lv_aload_n hx hb dX12_leastWidth_55 rfl (lv_at hl 0 rfl) ?_
        refine fl_get12 (v := .int (r7.1 306 39)) kyf_306 F hW 39 (by decide) q_1510 rfl rfl dX12_leastWidth_56 ?_
        refine lv_iload_n hx hb dX12_leastWidth_59 rfl (lv_at hl 1 rfl) ?_
        refine lv_icmp_gt (tgt := 68) hx hb dX12_leastWidth_60 (by decide) (fun cc => ?_) (fun cc => ?_)
        · replace h := (if_pos cc).symm.trans h
          refine lv_iconst (v := (-1 : Int32)) hx hb dX12_leastWidth_68 (by decide) ?_
          refine lv_istore_n (lv' := [(3, .int (-1 : Int32)), (0, .ref (b + 306)), (1, .int a1), (2, .int x2), (4, .int x4)]) hx hb dX12_leastWidth_69 rfl hl (by decide) rfl (fun ls hl => ?_)
          refine lv_iinc (v := (x4 + (1 : Int32))) (lv' := [(4, .int (x4 + (1 : Int32))), (3, .int (-1 : Int32)), (0, .ref (b + 306)), (1, .int a1), (2, .int x2)]) hx hb dX12_leastWidth_70 hl (k := 4) rfl rfl (by decide) rfl (fun ls hl => ?_)
          refine lv_goto (tgt := 31) hx hb dX12_leastWidth_73 (by decide) ?_
          exact hk31 _ _ _ _ _ _ _ h hW hS (lv_sub hl [2, 3, 4, 1, 0] rfl)
        · replace h := (if_neg cc).symm.trans h
          refine lv_iload hx hb dX12_leastWidth_63 (lv_at hl 4 rfl) ?_
          refine lv_goto (tgt := 69) hx hb dX12_leastWidth_65 (by decide) ?_
          refine lv_istore_n (lv' := [(3, .int x4), (0, .ref (b + 306)), (1, .int a1), (2, .int x2), (4, .int x4)]) hx hb dX12_leastWidth_69 rfl hl (by decide) rfl (fun ls hl => ?_)
          refine lv_iinc (v := (x4 + (1 : Int32))) (lv' := [(4, .int (x4 + (1 : Int32))), (3, .int x4), (0, .ref (b + 306)), (1, .int a1), (2, .int x2)]) hx hb dX12_leastWidth_70 hl (k := 4) rfl rfl (by decide) rfl (fun ls hl => ?_)
          refine lv_goto (tgt := 31) hx hb dX12_leastWidth_73 (by decide) ?_
          exact hk31 _ _ _ _ _ _ _ h hW hS (lv_sub hl [2, 3, 4, 1, 0] rfl)
set_option maxHeartbeats 4000000 in
set_option maxRecDepth 100000 in
theorem wk_X12_leastWidth {n : Nat} {a1 : Int32} {μ : Mm} {out : (Int32 × Mm)} (F : FX (fg G) b RX12 cX12_leastWidth 5 p s m args meth c) (hr : meth.sig.returnType = some .int) (h : sh_X12_leastWidth n a1 μ = some out) (hW : WH (fg G) b μ H) (hS : va_S (fb b) s.heap H locs) (hl : lv_has ls 5 [(0, .ref (b + 306)), (1, .int a1)]) : W p l e ({ frames := 9, cells := 0, slots := 0, locals := 205 } : Room) s m args below meth c H locs 0 0 (MQ below (QW (fg G) b out.2 (some (.int out.1))) args s 0 0 (fb b)) (F0 m 0 ls []) := by
  have hx := F.1
  have hb := F.2.1
  unfold sh_X12_leastWidth at h
  refine lv_aload_n hx hb dX12_leastWidth_0 rfl (lv_at hl 0 rfl) ?_
  refine lv_iload_n hx hb dX12_leastWidth_1 rfl (lv_at hl 1 rfl) ?_
  refine lv_i2l hx hb dX12_leastWidth_2 rfl ?_
  refine lv_lconst (v := (1 : Int64)) hx hb dX12_leastWidth_3 (by decide) ?_
  refine lv_ldc2 hx hb F.2.2.2.1 (F.2.2.2.2.1 _ q_2067) dX12_leastWidth_4 ?_
  obtain ⟨r1, qr1, h⟩ := ob h
  refine k_X12_in F qr1 q_1643 ⟨Nat.le_of_ble_eq_true rfl, Nat.le_of_ble_eq_true rfl, Nat.le_of_ble_eq_true rfl, Nat.le_of_ble_eq_true rfl⟩ hW hS hl.1 (Nat.le_of_ble_eq_true rfl) dX12_leastWidth_7 (fun H locs hW hS => ?_)
  obtain ⟨r2, qr2, h⟩ := ob h
  refine k_X12_passes F qr2 q_1627 ⟨Nat.le_of_ble_eq_true rfl, Nat.le_of_ble_eq_true rfl, Nat.le_of_ble_eq_true rfl, Nat.le_of_ble_eq_true rfl⟩ hW hS hl.1 (Nat.le_of_ble_eq_true rfl) dX12_leastWidth_10 (fun H locs hW hS => ?_)
  refine lv_if_ne (tgt := 18) hx hb dX12_leastWidth_13 (by decide) (fun cc => ?_) (fun cc => ?_)
  · replace h := (if_neg cc).symm.trans h
    refine lv_aload_n hx hb dX12_leastWidth_18 rfl (lv_at hl 0 rfl) ?_
    refine fl_get12 (v := .ref (b + 307)) kyf_306 F hW 1 (by decide) q_1472 rfl rfl dX12_leastWidth_19 ?_
    refine lv_iconst (v := (0 : Int32)) hx hb dX12_leastWidth_22 (by decide) ?_
    obtain ⟨v3, qv3, h⟩ := ob h
    refine fm_iald kyf_307 F hW qv3 dX12_leastWidth_23 ?_
    refine lv_istore_n (lv' := [(2, .int v3), (0, .ref (b + 306)), (1, .int a1)]) hx hb dX12_leastWidth_24 rfl hl (by decide) rfl (fun ls hl => ?_)
    refine lv_iconst (v := (-1 : Int32)) hx hb dX12_leastWidth_25 (by decide) ?_
    refine lv_istore_n (lv' := [(3, .int (-1 : Int32)), (2, .int v3), (0, .ref (b + 306)), (1, .int a1)]) hx hb dX12_leastWidth_26 rfl hl (by decide) rfl (fun ls hl => ?_)
    refine lv_bipush (v := (20 : Int32)) hx hb dX12_leastWidth_27 (by decide) ?_
    refine lv_istore (lv' := [(4, .int (20 : Int32)), (3, .int (-1 : Int32)), (2, .int v3), (0, .ref (b + 306)), (1, .int a1)]) hx hb dX12_leastWidth_29 hl (by decide) rfl (fun ls hl => ?_)
    exact wk_X12_leastWidth_31 F hr n _ _ _ _ _ _ _ h hW hS (lv_sub hl [3, 4, 2, 1, 0] rfl)
  · replace h := (if_pos cc).symm.trans h
    refine lv_iconst (v := (0 : Int32)) hx hb dX12_leastWidth_16 (by decide) ?_
    cases h
    exact r_int F hr hW hS dX12_leastWidth_17
set_option maxHeartbeats 4000000 in
set_option maxRecDepth 100000 in
theorem c_X12_leastWidth {l : Launch} {G : Gt} {b : Nat} {n : Nat} {a1 : Int32} {μ : Mm} {out : (Int32 × Mm)} (h : sh_X12_leastWidth n a1 μ = some out) : Met l yX12_leastWidth (wU (Cond.code yX12_leastWidth cX12_leastWidth 5 (some .int))) ({ frames := 9, cells := 0, slots := 0, locals := 205 } : Room) (PcW (fg G) b μ [.ref (b + 306), .int a1]) (QW (fg G) b out.2 (some (.int out.1))) 0 0 (fb b) :=
  met_of [.ref (b + 306), .int a1] (by decide) (Nat.le_of_ble_eq_true rfl) (fun F hr hW hl => wk_X12_leastWidth F hr h hW va_S.rf hl)
set_option maxHeartbeats 4000000 in
set_option maxRecDepth 100000 in
theorem k_X12_leastWidth {own : String} {nL : Nat} (F : FX (fg G) b own cc nL p s m args meth c) {n : Nat} {a1 : Int32} {μ : Mm} {out : (Int32 × Mm)} (h : sh_X12_leastWidth n a1 μ = some out) {index : Nat} (hl : Cond.methodLink own index yX12_leastWidth ∈ TBG) (hR : 9 + 1 ≤ R.frames ∧ 8 + (5 + 11) + 205 ≤ R.locals ∧ cells ≤ R.cells ∧ slots ≤ R.slots) (hW : WH (fg G) b μ H) (hS : va_S (fb b) s.heap H locs) (hsz : ls.size = nL) (hrest : (rest.map fun v => v.category).sum ≤ 8) (hdg : decode cc pc = .ok (.invokevirtual index, 3))
    (kk : ∀ (H1 : Heap) (locs1 : List Loc), WH (fg G) b out.2 H1 → va_S (fb b) s.heap H1 locs1 → W p l e R s m args below meth c H1 locs1 cells slots Q (F0 m (pc + 3) ls (.int out.1 :: rest))) : W p l e R s m args below meth c H locs cells slots Q (F0 m pc ls (.int a1 :: .ref (b + 306) :: rest)) :=
  f_callV (As := [.int a1]) (ci := 12) (c_X12_leastWidth h) ⟨rfl, rfl⟩ rfl (ky_lm kyf_306 (by decide)) (wF_12 kyf_306) q_2123 q_2124 q_14 q_2125 rfl ⟨by decide +kernel, by decide +kernel, (show (parseMethodDescriptor yX12_leastWidth.desc).map (fun d => d.parameters.length) = some 1 by decide +kernel)⟩ F hl hR hW hS hsz hrest rfl hdg kk
set_option maxHeartbeats 4000000 in
set_option maxRecDepth 100000 in
theorem wk_X12_bestWidth_79 {n : Nat} {k23 : (Int32 → Int32 → Int32 → Int32 → Int32 → Mm → Option (Int32 × Mm))} {x1 : Int32} {x2 : Int32} {x3 : Int32} {x4 : Int32} {x5 : Int32} {x6 : Int32} {s0 : Int32} {μ : Mm} {out : (Int32 × Mm)} (F : FX (fg G) b RX12 cX12_bestWidth 8 p s m args meth c) (hr : meth.sig.returnType = some .int) (hk23 : ∀ (x1 : Int32) (x2 : Int32) (x3 : Int32) (x4 : Int32) (x5 : Int32) (μ : Mm) (H : Heap) (locs : List Loc) (ls : Array Slot), k23 x1 x2 x3 x4 x5 μ = some out → WH (fg G) b μ H → va_S (fb b) s.heap H locs → lv_has ls 8 [(0, .ref (b + 306)), (1, .int x1), (2, .int x2), (3, .int x3), (4, .int x4), (5, .int x5)] → W p l e ({ frames := 9, cells := 0, slots := 0, locals := 205 } : Room) s m args below meth c H locs 0 0 (MQ below (QW (fg G) b out.2 (some (.int out.1))) args s 0 0 (fb b)) (F0 m 23 ls [])) (h : sh_X12_bestWidth_79 n k23 x1 x2 x3 x4 x5 x6 s0 μ = some out) (hW : WH (fg G) b μ H) (hS : va_S (fb b) s.heap H locs) (hl : lv_has ls 8 [(0, .ref (b + 306)), (1, .int x1), (2, .int x2), (3, .int x3), (4, .int x4), (5, .int x5), (6, .int x6)]) : W p l e ({ frames := 9, cells := 0, slots := 0, locals := 205 } : Room) s m args below meth c H locs 0 0 (MQ below (QW (fg G) b out.2 (some (.int out.1))) args s 0 0 (fb b)) (F0 m 79 ls [.int s0]) := by
  have hx := F.1
  have hb := F.2.1
  unfold sh_X12_bestWidth_79 at h
  refine lv_istore (lv' := [(7, .int s0), (0, .ref (b + 306)), (1, .int x1), (2, .int x2), (3, .int x3), (4, .int x4), (5, .int x5), (6, .int x6)]) hx hb dX12_bestWidth_79 hl (by decide) rfl (fun ls hl => ?_)
  refine lv_iload hx hb dX12_bestWidth_81 (lv_at hl 0 rfl) ?_
  refine lv_if_ne (tgt := 89) hx hb dX12_bestWidth_83 (by decide) (fun cc => ?_) (fun cc => ?_)
  · replace h := (if_neg cc).symm.trans h
    refine lv_iload hx hb dX12_bestWidth_89 (lv_at hl 6 rfl) ?_
    refine lv_istore_n (lv' := [(2, .int x5), (7, .int s0), (0, .ref (b + 306)), (1, .int x1), (3, .int x3), (4, .int x4), (5, .int x5), (6, .int x6)]) hx hb dX12_bestWidth_91 rfl hl (by decide) rfl (fun ls hl => ?_)
    refine lv_iload hx hb dX12_bestWidth_92 (lv_at hl 7 rfl) ?_
    refine lv_istore_n (lv' := [(3, .int x6), (2, .int x5), (7, .int s0), (0, .ref (b + 306)), (1, .int x1), (4, .int x4), (5, .int x5), (6, .int x6)]) hx hb dX12_bestWidth_94 rfl hl (by decide) rfl (fun ls hl => ?_)
    refine lv_aload_n hx hb dX12_bestWidth_95 rfl (lv_at hl 3 rfl) ?_
    refine fl_get12 (v := .int (μ.1 306 36)) kyf_306 F hW 36 (by decide) q_1507 rfl rfl dX12_bestWidth_96 ?_
    obtain ⟨v7, ev7⟩ : ∃ y, y = (μ.1 306 36) := ⟨_, rfl⟩
    have h := nm_at ev7 h
    rw [← ev7]
    refine lv_istore (lv' := [(4, .int v7), (3, .int x6), (2, .int x5), (7, .int s0), (0, .ref (b + 306)), (1, .int x1), (5, .int x5), (6, .int x6)]) hx hb dX12_bestWidth_99 hl (by decide) rfl (fun ls hl => ?_)
    refine lv_iinc (v := (x5 + (1 : Int32))) (lv' := [(5, .int (x5 + (1 : Int32))), (4, .int v7), (3, .int x6), (2, .int x5), (7, .int s0), (0, .ref (b + 306)), (1, .int x1), (6, .int x6)]) hx hb dX12_bestWidth_101 hl (k := 6) rfl rfl (by decide) rfl (fun ls hl => ?_)
    refine lv_goto (tgt := 23) hx hb dX12_bestWidth_104 (by decide) ?_
    exact hk23 _ _ _ _ _ _ _ _ _ h hW hS (lv_sub hl [5, 6, 3, 2, 1, 0] rfl)
  · replace h := (if_pos cc).symm.trans h
    refine lv_goto (tgt := 101) hx hb dX12_bestWidth_86 (by decide) ?_
    refine lv_iinc (v := (x5 + (1 : Int32))) (lv' := [(5, .int (x5 + (1 : Int32))), (7, .int s0), (0, .ref (b + 306)), (1, .int x1), (2, .int x2), (3, .int x3), (4, .int x4), (6, .int x6)]) hx hb dX12_bestWidth_101 hl (k := 6) rfl rfl (by decide) rfl (fun ls hl => ?_)
    refine lv_goto (tgt := 23) hx hb dX12_bestWidth_104 (by decide) ?_
    exact hk23 _ _ _ _ _ _ _ _ _ h hW hS (lv_sub hl [2, 3, 4, 5, 6, 0] rfl)
set_option maxHeartbeats 4000000 in
set_option maxRecDepth 100000 in
theorem wk_X12_bestWidth_74 {n : Nat} {k23 : (Int32 → Int32 → Int32 → Int32 → Int32 → Mm → Option (Int32 × Mm))} {x1 : Int32} {x2 : Int32} {x3 : Int32} {x4 : Int32} {x5 : Int32} {x6 : Int32} {μ : Mm} {out : (Int32 × Mm)} (F : FX (fg G) b RX12 cX12_bestWidth 8 p s m args meth c) (hr : meth.sig.returnType = some .int) (hk23 : ∀ (x1 : Int32) (x2 : Int32) (x3 : Int32) (x4 : Int32) (x5 : Int32) (μ : Mm) (H : Heap) (locs : List Loc) (ls : Array Slot), k23 x1 x2 x3 x4 x5 μ = some out → WH (fg G) b μ H → va_S (fb b) s.heap H locs → lv_has ls 8 [(0, .ref (b + 306)), (1, .int x1), (2, .int x2), (3, .int x3), (4, .int x4), (5, .int x5)] → W p l e ({ frames := 9, cells := 0, slots := 0, locals := 205 } : Room) s m args below meth c H locs 0 0 (MQ below (QW (fg G) b out.2 (some (.int out.1))) args s 0 0 (fb b)) (F0 m 23 ls [])) (h : sh_X12_bestWidth_74 n k23 x1 x2 x3 x4 x5 x6 μ = some out) (hW : WH (fg G) b μ H) (hS : va_S (fb b) s.heap H locs) (hl : lv_has ls 8 [(0, .ref (b + 306)), (1, .int x1), (2, .int x2), (3, .int x3), (4, .int x4), (5, .int x5), (6, .int x6)]) : W p l e ({ frames := 9, cells := 0, slots := 0, locals := 205 } : Room) s m args below meth c H locs 0 0 (MQ below (QW (fg G) b out.2 (some (.int out.1))) args s 0 0 (fb b)) (F0 m 74 ls []) := by
  have hx := F.1
  have hb := F.2.1
  unfold sh_X12_bestWidth_74 at h
  refine lv_iconst (v := (1 : Int32)) hx hb dX12_bestWidth_74 (by decide) ?_
  refine lv_goto (tgt := 79) hx hb dX12_bestWidth_75 (by decide) ?_
  exact wk_X12_bestWidth_79 F hr hk23 h hW hS (lv_sub hl [0, 1, 2, 3, 4, 5, 6] rfl)
set_option maxHeartbeats 4000000 in
set_option maxRecDepth 100000 in
theorem wk_X12_bestWidth_78 {n : Nat} {k23 : (Int32 → Int32 → Int32 → Int32 → Int32 → Mm → Option (Int32 × Mm))} {x1 : Int32} {x2 : Int32} {x3 : Int32} {x4 : Int32} {x5 : Int32} {x6 : Int32} {μ : Mm} {out : (Int32 × Mm)} (F : FX (fg G) b RX12 cX12_bestWidth 8 p s m args meth c) (hr : meth.sig.returnType = some .int) (hk23 : ∀ (x1 : Int32) (x2 : Int32) (x3 : Int32) (x4 : Int32) (x5 : Int32) (μ : Mm) (H : Heap) (locs : List Loc) (ls : Array Slot), k23 x1 x2 x3 x4 x5 μ = some out → WH (fg G) b μ H → va_S (fb b) s.heap H locs → lv_has ls 8 [(0, .ref (b + 306)), (1, .int x1), (2, .int x2), (3, .int x3), (4, .int x4), (5, .int x5)] → W p l e ({ frames := 9, cells := 0, slots := 0, locals := 205 } : Room) s m args below meth c H locs 0 0 (MQ below (QW (fg G) b out.2 (some (.int out.1))) args s 0 0 (fb b)) (F0 m 23 ls [])) (h : sh_X12_bestWidth_78 n k23 x1 x2 x3 x4 x5 x6 μ = some out) (hW : WH (fg G) b μ H) (hS : va_S (fb b) s.heap H locs) (hl : lv_has ls 8 [(0, .ref (b + 306)), (1, .int x1), (2, .int x2), (3, .int x3), (4, .int x4), (5, .int x5), (6, .int x6)]) : W p l e ({ frames := 9, cells := 0, slots := 0, locals := 205 } : Room) s m args below meth c H locs 0 0 (MQ below (QW (fg G) b out.2 (some (.int out.1))) args s 0 0 (fb b)) (F0 m 78 ls []) := by
  have hx := F.1
  have hb := F.2.1
  unfold sh_X12_bestWidth_78 at h
  refine lv_iconst (v := (0 : Int32)) hx hb dX12_bestWidth_78 (by decide) ?_
  exact wk_X12_bestWidth_79 F hr hk23 h hW hS (lv_sub hl [0, 1, 2, 3, 4, 5, 6] rfl)
set_option maxHeartbeats 4000000 in
set_option maxRecDepth 100000 in
theorem wk_X12_bestWidth_23 {n : Nat} {out : (Int32 × Mm)} (F : FX (fg G) b RX12 cX12_bestWidth 8 p s m args meth c) (hr : meth.sig.returnType = some .int) : ∀ (f : Nat) (x1 : Int32) (x2 : Int32) (x3 : Int32) (x4 : Int32) (x5 : Int32) (μ : Mm) (H : Heap) (locs : List Loc) (ls : Array Slot), sh_X12_bestWidth_23 n f x1 x2 x3 x4 x5 μ = some out → WH (fg G) b μ H → va_S (fb b) s.heap H locs → lv_has ls 8 [(0, .ref (b + 306)), (1, .int x1), (2, .int x2), (3, .int x3), (4, .int x4), (5, .int x5)] → W p l e ({ frames := 9, cells := 0, slots := 0, locals := 205 } : Room) s m args below meth c H locs 0 0 (MQ below (QW (fg G) b out.2 (some (.int out.1))) args s 0 0 (fb b)) (F0 m 23 ls []) := by
  have hx := F.1
  have hb := F.2.1
  intro f
  induction f with
  | zero =>
    intro _ _ _ _ _ _ _ _ _ h
    rw [sh_X12_bestWidth_23] at h
    cases h
  | succ f ih =>
    intro x1 x2 x3 x4 x5 μ H locs ls h hW hS hl
    rw [sh_X12_bestWidth_23] at h
    have hk23 := ih
    refine lv_iload hx hb dX12_bestWidth_23 (lv_at hl 5 rfl) ?_
    refine lv_bipush (v := (120 : Int32)) hx hb dX12_bestWidth_25 (by decide) ?_
    refine lv_icmp_gt (tgt := 107) hx hb dX12_bestWidth_27 (by decide) (fun cc => ?_) (fun cc => ?_)
    · replace h := (if_pos cc).symm.trans h
      refine lv_aload_n hx hb dX12_bestWidth_107 rfl (lv_at hl 0 rfl) ?_
      refine fl_get12 (v := .ref (b + 307)) kyf_306 F hW 1 (by decide) q_1472 rfl rfl dX12_bestWidth_108 ?_
      refine lv_iconst (v := (0 : Int32)) hx hb dX12_bestWidth_111 (by decide) ?_
      refine lv_iload_n hx hb dX12_bestWidth_112 rfl (lv_at hl 1 rfl) ?_
      obtain ⟨μ3, qμ3, h⟩ := ob h
      refine fm_iast kyf_307 F hW hS qμ3 dX12_bestWidth_113 (fun H locs hW hS => ?_)
      refine lv_iload_n hx hb dX12_bestWidth_114 rfl (lv_at hl 2 rfl) ?_
      cases h
      exact r_int F hr hW hS dX12_bestWidth_115
    · replace h := (if_neg cc).symm.trans h
      refine lv_aload_n hx hb dX12_bestWidth_30 rfl (lv_at hl 0 rfl) ?_
      refine fl_get12 (v := .ref (b + 307)) kyf_306 F hW 1 (by decide) q_1472 rfl rfl dX12_bestWidth_31 ?_
      refine lv_iconst (v := (0 : Int32)) hx hb dX12_bestWidth_34 (by decide) ?_
      refine lv_iload hx hb dX12_bestWidth_35 (lv_at hl 5 rfl) ?_
      obtain ⟨μ4, qμ4, h⟩ := ob h
      refine fm_iast kyf_307 F hW hS qμ4 dX12_bestWidth_37 (fun H locs hW hS => ?_)
      refine lv_aload_n hx hb dX12_bestWidth_38 rfl (lv_at hl 0 rfl) ?_
      obtain ⟨r5, qr5, h⟩ := ob h
      refine k_X12_lay F qr5 q_1764 ⟨Nat.le_of_ble_eq_true rfl, Nat.le_of_ble_eq_true rfl, Nat.le_of_ble_eq_true rfl, Nat.le_of_ble_eq_true rfl⟩ hW hS hl.1 (Nat.le_of_ble_eq_true rfl) dX12_bestWidth_39 (fun H locs hW hS => ?_)
      refine lv_aload_n hx hb dX12_bestWidth_42 rfl (lv_at hl 0 rfl) ?_
      obtain ⟨r6, qr6, h⟩ := ob h
      refine k_X12_overfulls F qr6 q_1962 ⟨Nat.le_of_ble_eq_true rfl, Nat.le_of_ble_eq_true rfl, Nat.le_of_ble_eq_true rfl, Nat.le_of_ble_eq_true rfl⟩ hW hS hl.1 (Nat.le_of_ble_eq_true rfl) dX12_bestWidth_43 (fun H locs hW hS => ?_)
      refine lv_istore (lv' := [(6, .int r6), (0, .ref (b + 306)), (1, .int x1), (2, .int x2), (3, .int x3), (4, .int x4), (5, .int x5)]) hx hb dX12_bestWidth_46 hl (by decide) rfl (fun ls hl => ?_)
      refine lv_iload_n hx hb dX12_bestWidth_48 rfl (lv_at hl 3 rfl) ?_
      refine lv_iconst (v := (-1 : Int32)) hx hb dX12_bestWidth_49 (by decide) ?_
      refine lv_icmp_eq (tgt := 74) hx hb dX12_bestWidth_50 (by decide) (fun cc => ?_) (fun cc => ?_)
      · replace h := (if_pos cc).symm.trans h
        exact wk_X12_bestWidth_74 F hr hk23 h hW hS (lv_sub hl [1, 2, 3, 4, 5, 6, 0] rfl)
      · replace h := (if_neg cc).symm.trans h
        refine lv_iload hx hb dX12_bestWidth_53 (lv_at hl 0 rfl) ?_
        refine lv_iload_n hx hb dX12_bestWidth_55 rfl (lv_at hl 4 rfl) ?_
        refine lv_icmp_lt (tgt := 74) hx hb dX12_bestWidth_56 (by decide) (fun cc => ?_) (fun cc => ?_)
        · replace h := (if_pos cc).symm.trans h
          exact wk_X12_bestWidth_74 F hr hk23 h hW hS (lv_sub hl [1, 2, 3, 4, 5, 6, 0] rfl)
        · replace h := (if_neg cc).symm.trans h
          refine lv_iload hx hb dX12_bestWidth_59 (lv_at hl 0 rfl) ?_
          refine lv_iload_n hx hb dX12_bestWidth_61 rfl (lv_at hl 4 rfl) ?_
          refine lv_icmp_ne (tgt := 78) hx hb dX12_bestWidth_62 (by decide) (fun cc => ?_) (fun cc => ?_)
          · replace h := (if_neg cc).symm.trans h
            exact wk_X12_bestWidth_78 F hr hk23 h hW hS (lv_sub hl [1, 2, 3, 4, 5, 6, 0] rfl)
          · replace h := (if_pos cc).symm.trans h
            refine lv_aload_n hx hb dX12_bestWidth_65 rfl (lv_at hl 1 rfl) ?_
            refine fl_get12 (v := .int (r5.1 306 36)) kyf_306 F hW 36 (by decide) q_1507 rfl rfl dX12_bestWidth_66 ?_
            refine lv_iload hx hb dX12_bestWidth_69 (lv_at hl 5 rfl) ?_
            refine lv_icmp_ge (tgt := 78) hx hb dX12_bestWidth_71 (by decide) (fun cc => ?_) (fun cc => ?_)
            · replace h := (if_pos cc).symm.trans h
              exact wk_X12_bestWidth_78 F hr hk23 h hW hS (lv_sub hl [1, 2, 3, 4, 5, 6, 0] rfl)
            · replace h := (if_neg cc).symm.trans h
              exact wk_X12_bestWidth_74 F hr hk23 h hW hS (lv_sub hl [1, 2, 3, 4, 5, 6, 0] rfl)
set_option maxHeartbeats 4000000 in
set_option maxRecDepth 100000 in
theorem wk_X12_bestWidth {n : Nat} {μ : Mm} {out : (Int32 × Mm)} (F : FX (fg G) b RX12 cX12_bestWidth 8 p s m args meth c) (hr : meth.sig.returnType = some .int) (h : sh_X12_bestWidth n  μ = some out) (hW : WH (fg G) b μ H) (hS : va_S (fb b) s.heap H locs) (hl : lv_has ls 8 [(0, .ref (b + 306))]) : W p l e ({ frames := 9, cells := 0, slots := 0, locals := 205 } : Room) s m args below meth c H locs 0 0 (MQ below (QW (fg G) b out.2 (some (.int out.1))) args s 0 0 (fb b)) (F0 m 0 ls []) := by
  have hx := F.1
  have hb := F.2.1
  unfold sh_X12_bestWidth at h
  refine lv_aload_n hx hb dX12_bestWidth_0 rfl (lv_at hl 0 rfl) ?_
  refine lv_iconst (v := (0 : Int32)) hx hb dX12_bestWidth_1 (by decide) ?_
  obtain ⟨μ1, hmμ1, h⟩ := ob h
  refine fl_put12_0 kyf_306 F hW hS q_1471 hmμ1 dX12_bestWidth_2 (fun H locs hW hS => ?_)
  refine lv_aload_n hx hb dX12_bestWidth_5 rfl (lv_at hl 0 rfl) ?_
  refine fl_get12 (v := .ref (b + 307)) kyf_306 F hW 1 (by decide) q_1472 rfl rfl dX12_bestWidth_6 ?_
  refine lv_iconst (v := (0 : Int32)) hx hb dX12_bestWidth_9 (by decide) ?_
  obtain ⟨v2, qv2, h⟩ := ob h
  refine fm_iald kyf_307 F hW qv2 dX12_bestWidth_10 ?_
  refine lv_istore_n (lv' := [(1, .int v2), (0, .ref (b + 306))]) hx hb dX12_bestWidth_11 rfl hl (by decide) rfl (fun ls hl => ?_)
  refine lv_iconst (v := (-1 : Int32)) hx hb dX12_bestWidth_12 (by decide) ?_
  refine lv_istore_n (lv' := [(2, .int (-1 : Int32)), (1, .int v2), (0, .ref (b + 306))]) hx hb dX12_bestWidth_13 rfl hl (by decide) rfl (fun ls hl => ?_)
  refine lv_iconst (v := (0 : Int32)) hx hb dX12_bestWidth_14 (by decide) ?_
  refine lv_istore_n (lv' := [(3, .int (0 : Int32)), (2, .int (-1 : Int32)), (1, .int v2), (0, .ref (b + 306))]) hx hb dX12_bestWidth_15 rfl hl (by decide) rfl (fun ls hl => ?_)
  refine lv_iconst (v := (0 : Int32)) hx hb dX12_bestWidth_16 (by decide) ?_
  refine lv_istore (lv' := [(4, .int (0 : Int32)), (3, .int (0 : Int32)), (2, .int (-1 : Int32)), (1, .int v2), (0, .ref (b + 306))]) hx hb dX12_bestWidth_17 hl (by decide) rfl (fun ls hl => ?_)
  refine lv_bipush (v := (20 : Int32)) hx hb dX12_bestWidth_19 (by decide) ?_
  refine lv_istore (lv' := [(5, .int (20 : Int32)), (4, .int (0 : Int32)), (3, .int (0 : Int32)), (2, .int (-1 : Int32)), (1, .int v2), (0, .ref (b + 306))]) hx hb dX12_bestWidth_21 hl (by decide) rfl (fun ls hl => ?_)
  exact wk_X12_bestWidth_23 F hr n _ _ _ _ _ _ _ _ _ h hW hS (lv_sub hl [5, 4, 3, 2, 1, 0] rfl)
set_option maxHeartbeats 4000000 in
set_option maxRecDepth 100000 in
theorem c_X12_bestWidth {l : Launch} {G : Gt} {b : Nat} {n : Nat} {μ : Mm} {out : (Int32 × Mm)} (h : sh_X12_bestWidth n  μ = some out) : Met l yX12_bestWidth (wU (Cond.code yX12_bestWidth cX12_bestWidth 8 (some .int))) ({ frames := 9, cells := 0, slots := 0, locals := 205 } : Room) (PcW (fg G) b μ [.ref (b + 306)]) (QW (fg G) b out.2 (some (.int out.1))) 0 0 (fb b) :=
  met_of [.ref (b + 306)] (by decide) (Nat.le_of_ble_eq_true rfl) (fun F hr hW hl => wk_X12_bestWidth F hr h hW va_S.rf hl)
set_option maxHeartbeats 4000000 in
set_option maxRecDepth 100000 in
theorem k_X12_bestWidth {own : String} {nL : Nat} (F : FX (fg G) b own cc nL p s m args meth c) {n : Nat} {μ : Mm} {out : (Int32 × Mm)} (h : sh_X12_bestWidth n  μ = some out) {index : Nat} (hl : Cond.methodLink own index yX12_bestWidth ∈ TBG) (hR : 9 + 1 ≤ R.frames ∧ 8 + (8 + 11) + 205 ≤ R.locals ∧ cells ≤ R.cells ∧ slots ≤ R.slots) (hW : WH (fg G) b μ H) (hS : va_S (fb b) s.heap H locs) (hsz : ls.size = nL) (hrest : (rest.map fun v => v.category).sum ≤ 8) (hdg : decode cc pc = .ok (.invokevirtual index, 3))
    (kk : ∀ (H1 : Heap) (locs1 : List Loc), WH (fg G) b out.2 H1 → va_S (fb b) s.heap H1 locs1 → W p l e R s m args below meth c H1 locs1 cells slots Q (F0 m (pc + 3) ls (.int out.1 :: rest))) : W p l e R s m args below meth c H locs cells slots Q (F0 m pc ls (.ref (b + 306) :: rest)) :=
  f_callV (As := []) (ci := 12) (c_X12_bestWidth h) ⟨rfl, rfl⟩ rfl (ky_lm kyf_306 (by decide)) (wF_12 kyf_306) q_2127 q_2128 q_14 q_2129 rfl ⟨by decide +kernel, by decide +kernel, (show (parseMethodDescriptor yX12_bestWidth.desc).map (fun d => d.parameters.length) = some 0 by decide +kernel)⟩ F hl hR hW hS hsz hrest rfl hdg kk
set_option maxHeartbeats 4000000 in
set_option maxRecDepth 100000 in
theorem wk_X12_beginnings_4 {n : Nat} {a1 : Int32} {μ : Mm} {out : Int32} (F : FX (fg G) b RX12 cX12_beginnings 4 p s m args meth c) (hr : meth.sig.returnType = some .int) : ∀ (f : Nat) (x2 : Int32) (x3 : Int32) (H : Heap) (locs : List Loc) (ls : Array Slot), sh_X12_beginnings_4 n a1 μ f x2 x3 = some out → WH (fg G) b μ H → va_S (fb b) s.heap H locs → lv_has ls 4 [(0, .ref (b + 306)), (1, .int a1), (2, .int x2), (3, .int x3)] → W p l e ({ frames := 2, cells := 0, slots := 0, locals := 43 } : Room) s m args below meth c H locs 0 0 (MQ below (QW (fg G) b μ (some (.int out))) args s 0 0 (fb b)) (F0 m 4 ls []) := by
  have hx := F.1
  have hb := F.2.1
  intro f
  induction f with
  | zero =>
    intro _ _ _ _ _ h
    rw [sh_X12_beginnings_4] at h
    cases h
  | succ f ih =>
    intro x2 x3  H locs ls h hW hS hl
    rw [sh_X12_beginnings_4] at h
    have hk4 := ih
    refine lv_iload_n hx hb dX12_beginnings_4 rfl (lv_at hl 3 rfl) ?_
    refine lv_aload_n hx hb dX12_beginnings_5 rfl (lv_at hl 0 rfl) ?_
    refine fl_get12 (v := .ref (b + 307)) kyf_306 F hW 1 (by decide) q_1472 rfl rfl dX12_beginnings_6 ?_
    refine lv_bipush (v := (9 : Int32)) hx hb dX12_beginnings_9 (by decide) ?_
    obtain ⟨v1, qv1, h⟩ := ob h
    refine fm_iald kyf_307 F hW qv1 dX12_beginnings_11 ?_
    refine lv_icmp_ge (tgt := 38) hx hb dX12_beginnings_12 (by decide) (fun cc => ?_) (fun cc => ?_)
    · replace h := (if_pos cc).symm.trans h
      refine lv_iload_n hx hb dX12_beginnings_38 rfl (lv_at hl 2 rfl) ?_
      cases h
      exact r_int F hr hW hS dX12_beginnings_39
    · replace h := (if_neg cc).symm.trans h
      refine lv_iload_n hx hb dX12_beginnings_15 rfl (lv_at hl 2 rfl) ?_
      refine lv_aload_n hx hb dX12_beginnings_16 rfl (lv_at hl 0 rfl) ?_
      refine lv_iload_n hx hb dX12_beginnings_17 rfl (lv_at hl 3 rfl) ?_
      obtain ⟨r2, qr2, h⟩ := ob h
      refine k_X12_bookPageOf F qr2 q_1901 ⟨Nat.le_of_ble_eq_true rfl, Nat.le_of_ble_eq_true rfl, Nat.le_of_ble_eq_true rfl, Nat.le_of_ble_eq_true rfl⟩ hW hS hl.1 (Nat.le_of_ble_eq_true rfl) dX12_beginnings_18 (fun H locs hW hS => ?_)
      refine lv_iload_n hx hb dX12_beginnings_21 rfl (lv_at hl 1 rfl) ?_
      refine lv_icmp_ne (tgt := 29) hx hb dX12_beginnings_22 (by decide) (fun cc => ?_) (fun cc => ?_)
      · replace h := (if_neg cc).symm.trans h
        refine lv_iconst (v := (0 : Int32)) hx hb dX12_beginnings_29 (by decide) ?_
        refine lv_iadd hx hb dX12_beginnings_30 ?_
        obtain ⟨v3, ev3⟩ : ∃ y, y = (x2 + (0 : Int32)) := ⟨_, rfl⟩
        have h := nm_at ev3 h
        rw [← ev3]
        refine lv_istore_n (lv' := [(2, .int v3), (0, .ref (b + 306)), (1, .int a1), (3, .int x3)]) hx hb dX12_beginnings_31 rfl hl (by decide) rfl (fun ls hl => ?_)
        refine lv_iinc (v := (x3 + (1 : Int32))) (lv' := [(3, .int (x3 + (1 : Int32))), (2, .int v3), (0, .ref (b + 306)), (1, .int a1)]) hx hb dX12_beginnings_32 hl (k := 3) rfl rfl (by decide) rfl (fun ls hl => ?_)
        refine lv_goto (tgt := 4) hx hb dX12_beginnings_35 (by decide) ?_
        exact hk4 _ _ _ _ _ h hW hS (lv_sub hl [2, 3, 1, 0] rfl)
      · replace h := (if_pos cc).symm.trans h
        refine lv_iconst (v := (1 : Int32)) hx hb dX12_beginnings_25 (by decide) ?_
        refine lv_goto (tgt := 30) hx hb dX12_beginnings_26 (by decide) ?_
        refine lv_iadd hx hb dX12_beginnings_30 ?_
        obtain ⟨v4, ev4⟩ : ∃ y, y = (x2 + (1 : Int32)) := ⟨_, rfl⟩
        have h := nm_at ev4 h
        rw [← ev4]
        refine lv_istore_n (lv' := [(2, .int v4), (0, .ref (b + 306)), (1, .int a1), (3, .int x3)]) hx hb dX12_beginnings_31 rfl hl (by decide) rfl (fun ls hl => ?_)
        refine lv_iinc (v := (x3 + (1 : Int32))) (lv' := [(3, .int (x3 + (1 : Int32))), (2, .int v4), (0, .ref (b + 306)), (1, .int a1)]) hx hb dX12_beginnings_32 hl (k := 3) rfl rfl (by decide) rfl (fun ls hl => ?_)
        refine lv_goto (tgt := 4) hx hb dX12_beginnings_35 (by decide) ?_
        exact hk4 _ _ _ _ _ h hW hS (lv_sub hl [2, 3, 1, 0] rfl)
set_option maxHeartbeats 4000000 in
set_option maxRecDepth 100000 in
theorem wk_X12_beginnings {n : Nat} {a1 : Int32} {μ : Mm} {out : Int32} (F : FX (fg G) b RX12 cX12_beginnings 4 p s m args meth c) (hr : meth.sig.returnType = some .int) (h : sh_X12_beginnings n a1 μ = some out) (hW : WH (fg G) b μ H) (hS : va_S (fb b) s.heap H locs) (hl : lv_has ls 4 [(0, .ref (b + 306)), (1, .int a1)]) : W p l e ({ frames := 2, cells := 0, slots := 0, locals := 43 } : Room) s m args below meth c H locs 0 0 (MQ below (QW (fg G) b μ (some (.int out))) args s 0 0 (fb b)) (F0 m 0 ls []) := by
  have hx := F.1
  have hb := F.2.1
  unfold sh_X12_beginnings at h
  refine lv_iconst (v := (0 : Int32)) hx hb dX12_beginnings_0 (by decide) ?_
  refine lv_istore_n (lv' := [(2, .int (0 : Int32)), (0, .ref (b + 306)), (1, .int a1)]) hx hb dX12_beginnings_1 rfl hl (by decide) rfl (fun ls hl => ?_)
  refine lv_iconst (v := (0 : Int32)) hx hb dX12_beginnings_2 (by decide) ?_
  refine lv_istore_n (lv' := [(3, .int (0 : Int32)), (2, .int (0 : Int32)), (0, .ref (b + 306)), (1, .int a1)]) hx hb dX12_beginnings_3 rfl hl (by decide) rfl (fun ls hl => ?_)
  exact wk_X12_beginnings_4 F hr n _ _ _ _ _ h hW hS (lv_sub hl [2, 3, 1, 0] rfl)
set_option maxHeartbeats 4000000 in
set_option maxRecDepth 100000 in
theorem c_X12_beginnings {l : Launch} {G : Gt} {b : Nat} {n : Nat} {a1 : Int32} {μ : Mm} {out : Int32} (h : sh_X12_beginnings n a1 μ = some out) : Met l yX12_beginnings (wU (Cond.code yX12_beginnings cX12_beginnings 4 (some .int))) ({ frames := 2, cells := 0, slots := 0, locals := 43 } : Room) (PcW (fg G) b μ [.ref (b + 306), .int a1]) (QW (fg G) b μ (some (.int out))) 0 0 (fb b) :=
  met_of [.ref (b + 306), .int a1] (by decide) (Nat.le_of_ble_eq_true rfl) (fun F hr hW hl => wk_X12_beginnings F hr h hW va_S.rf hl)
set_option maxHeartbeats 4000000 in
set_option maxRecDepth 100000 in
theorem k_X12_beginnings {own : String} {nL : Nat} (F : FX (fg G) b own cc nL p s m args meth c) {n : Nat} {a1 : Int32} {μ : Mm} {out : Int32} (h : sh_X12_beginnings n a1 μ = some out) {index : Nat} (hl : Cond.methodLink own index yX12_beginnings ∈ TBG) (hR : 2 + 1 ≤ R.frames ∧ 8 + (4 + 11) + 43 ≤ R.locals ∧ cells ≤ R.cells ∧ slots ≤ R.slots) (hW : WH (fg G) b μ H) (hS : va_S (fb b) s.heap H locs) (hsz : ls.size = nL) (hrest : (rest.map fun v => v.category).sum ≤ 8) (hdg : decode cc pc = .ok (.invokevirtual index, 3))
    (kk : ∀ (H1 : Heap) (locs1 : List Loc), WH (fg G) b μ H1 → va_S (fb b) s.heap H1 locs1 → W p l e R s m args below meth c H1 locs1 cells slots Q (F0 m (pc + 3) ls (.int out :: rest))) : W p l e R s m args below meth c H locs cells slots Q (F0 m pc ls (.int a1 :: .ref (b + 306) :: rest)) :=
  f_callV (As := [.int a1]) (ci := 12) (c_X12_beginnings h) ⟨rfl, rfl⟩ rfl (ky_lm kyf_306 (by decide)) (wF_12 kyf_306) q_2136 qp_115 q_14 q_2137 rfl ⟨by decide +kernel, by decide +kernel, (show (parseMethodDescriptor yX12_beginnings.desc).map (fun d => d.parameters.length) = some 1 by decide +kernel)⟩ F hl hR hW hS hsz hrest rfl hdg kk
set_option maxHeartbeats 4000000 in
set_option maxRecDepth 100000 in
theorem wk_X12_crowded_99 {n : Nat} {a1 : Int32} {k24 : (Int32 → Mm → Option (Int32 × Mm))} {x2 : Int32} {x3 : Int32} {x4 : Int32} {μ : Mm} {out : (Int32 × Mm)} (F : FX (fg G) b RX12 cX12_crowded 6 p s m args meth c) (hr : meth.sig.returnType = some .int) (hk24 : ∀ (x2 : Int32) (μ : Mm) (H : Heap) (locs : List Loc) (ls : Array Slot), k24 x2 μ = some out → WH (fg G) b μ H → va_S (fb b) s.heap H locs → lv_has ls 6 [(0, .ref (b + 306)), (1, .int a1), (2, .int x2)] → W p l e ({ frames := 9, cells := 0, slots := 0, locals := 205 } : Room) s m args below meth c H locs 0 0 (MQ below (QW (fg G) b out.2 (some (.int out.1))) args s 0 0 (fb b)) (F0 m 24 ls [])) (h : sh_X12_crowded_99 n a1 k24 x2 x3 x4 μ = some out) (hW : WH (fg G) b μ H) (hS : va_S (fb b) s.heap H locs) (hl : lv_has ls 6 [(0, .ref (b + 306)), (1, .int a1), (2, .int x2), (3, .int x3), (4, .int x4)]) : W p l e ({ frames := 9, cells := 0, slots := 0, locals := 205 } : Room) s m args below meth c H locs 0 0 (MQ below (QW (fg G) b out.2 (some (.int out.1))) args s 0 0 (fb b)) (F0 m 99 ls []) := by
  have hx := F.1
  have hb := F.2.1
  unfold sh_X12_crowded_99 at h
  refine lv_iload_n hx hb dX12_crowded_99 rfl (lv_at hl 3 rfl) ?_
  refine lv_if_le (tgt := 111) hx hb dX12_crowded_100 (by decide) (fun cc => ?_) (fun cc => ?_)
  · replace h := (if_pos cc).symm.trans h
    refine lv_iinc (v := (x2 + (1 : Int32))) (lv' := [(2, .int (x2 + (1 : Int32))), (0, .ref (b + 306)), (1, .int a1), (3, .int x3), (4, .int x4)]) hx hb dX12_crowded_111 hl (k := 2) rfl rfl (by decide) rfl (fun ls hl => ?_)
    refine lv_goto (tgt := 24) hx hb dX12_crowded_114 (by decide) ?_
    exact hk24 _ _ _ _ _ h hW hS (lv_sub hl [1, 2, 0] rfl)
  · replace h := (if_neg cc).symm.trans h
    refine lv_iload hx hb dX12_crowded_103 (lv_at hl 4 rfl) ?_
    refine lv_iload_n hx hb dX12_crowded_105 rfl (lv_at hl 1 rfl) ?_
    refine lv_icmp_ne (tgt := 111) hx hb dX12_crowded_106 (by decide) (fun cc => ?_) (fun cc => ?_)
    · replace h := (if_neg cc).symm.trans h
      refine lv_iinc (v := (x2 + (1 : Int32))) (lv' := [(2, .int (x2 + (1 : Int32))), (0, .ref (b + 306)), (1, .int a1), (3, .int x3), (4, .int x4)]) hx hb dX12_crowded_111 hl (k := 2) rfl rfl (by decide) rfl (fun ls hl => ?_)
      refine lv_goto (tgt := 24) hx hb dX12_crowded_114 (by decide) ?_
      exact hk24 _ _ _ _ _ h hW hS (lv_sub hl [1, 2, 0] rfl)
    · replace h := (if_pos cc).symm.trans h
      refine lv_iload_n hx hb dX12_crowded_109 rfl (lv_at hl 2 rfl) ?_
      cases h
      exact r_int F hr hW hS dX12_crowded_110
set_option maxHeartbeats 4000000 in
set_option maxRecDepth 100000 in
theorem wk_X12_crowded_44 {n : Nat} {a1 : Int32} {k24 : (Int32 → Mm → Option (Int32 × Mm))} {out : (Int32 × Mm)} (F : FX (fg G) b RX12 cX12_crowded 6 p s m args meth c) (hr : meth.sig.returnType = some .int) (hk24 : ∀ (x2 : Int32) (μ : Mm) (H : Heap) (locs : List Loc) (ls : Array Slot), k24 x2 μ = some out → WH (fg G) b μ H → va_S (fb b) s.heap H locs → lv_has ls 6 [(0, .ref (b + 306)), (1, .int a1), (2, .int x2)] → W p l e ({ frames := 9, cells := 0, slots := 0, locals := 205 } : Room) s m args below meth c H locs 0 0 (MQ below (QW (fg G) b out.2 (some (.int out.1))) args s 0 0 (fb b)) (F0 m 24 ls [])) : ∀ (f : Nat) (x2 : Int32) (x3 : Int32) (x4 : Int32) (x5 : Int32) (μ : Mm) (H : Heap) (locs : List Loc) (ls : Array Slot), sh_X12_crowded_44 n a1 k24 f x2 x3 x4 x5 μ = some out → WH (fg G) b μ H → va_S (fb b) s.heap H locs → lv_has ls 6 [(0, .ref (b + 306)), (1, .int a1), (2, .int x2), (3, .int x3), (4, .int x4), (5, .int x5)] → W p l e ({ frames := 9, cells := 0, slots := 0, locals := 205 } : Room) s m args below meth c H locs 0 0 (MQ below (QW (fg G) b out.2 (some (.int out.1))) args s 0 0 (fb b)) (F0 m 44 ls []) := by
  have hx := F.1
  have hb := F.2.1
  intro f
  induction f with
  | zero =>
    intro _ _ _ _ _ _ _ _ h
    rw [sh_X12_crowded_44] at h
    cases h
  | succ f ih =>
    intro x2 x3 x4 x5 μ H locs ls h hW hS hl
    rw [sh_X12_crowded_44] at h
    have hk44 := ih
    refine lv_iload hx hb dX12_crowded_44 (lv_at hl 5 rfl) ?_
    refine lv_aload_n hx hb dX12_crowded_46 rfl (lv_at hl 0 rfl) ?_
    refine fl_get12 (v := .int (μ.1 306 24)) kyf_306 F hW 24 (by decide) q_1495 rfl rfl dX12_crowded_47 ?_
    refine lv_icmp_gt (tgt := 99) hx hb dX12_crowded_50 (by decide) (fun cc => ?_) (fun cc => ?_)
    · replace h := (if_pos cc).symm.trans h
      exact wk_X12_crowded_99 F hr hk24 h hW hS (lv_sub hl [0, 1, 2, 3, 4] rfl)
    · replace h := (if_neg cc).symm.trans h
      refine lv_iload_n hx hb dX12_crowded_53 rfl (lv_at hl 3 rfl) ?_
      refine lv_if_le (tgt := 99) hx hb dX12_crowded_54 (by decide) (fun cc => ?_) (fun cc => ?_)
      · replace h := (if_pos cc).symm.trans h
        exact wk_X12_crowded_99 F hr hk24 h hW hS (lv_sub hl [0, 1, 2, 3, 4] rfl)
      · replace h := (if_neg cc).symm.trans h
        refine lv_iload hx hb dX12_crowded_57 (lv_at hl 4 rfl) ?_
        refine lv_aload_n hx hb dX12_crowded_59 rfl (lv_at hl 0 rfl) ?_
        refine lv_iload hx hb dX12_crowded_60 (lv_at hl 5 rfl) ?_
        obtain ⟨r4, qr4, h⟩ := ob h
        refine k_X12_beginnings F qr4 q_2134 ⟨Nat.le_of_ble_eq_true rfl, Nat.le_of_ble_eq_true rfl, Nat.le_of_ble_eq_true rfl, Nat.le_of_ble_eq_true rfl⟩ hW hS hl.1 (Nat.le_of_ble_eq_true rfl) dX12_crowded_62 (fun H locs hW hS => ?_)
        refine lv_iload_n hx hb dX12_crowded_65 rfl (lv_at hl 3 rfl) ?_
        refine lv_icmp_gt (tgt := 85) hx hb dX12_crowded_66 (by decide) (fun cc => ?_) (fun cc => ?_)
        · replace h := (if_pos cc).symm.trans h
          refine lv_iconst (v := (1 : Int32)) hx hb dX12_crowded_85 (by decide) ?_
          refine lv_goto (tgt := 90) hx hb dX12_crowded_86 (by decide) ?_
          refine lv_iadd hx hb dX12_crowded_90 ?_
          obtain ⟨v5, ev5⟩ : ∃ y, y = (x4 + (1 : Int32)) := ⟨_, rfl⟩
          have h := nm_at ev5 h
          rw [← ev5]
          refine lv_istore (lv' := [(4, .int v5), (0, .ref (b + 306)), (1, .int a1), (2, .int x2), (3, .int x3), (5, .int x5)]) hx hb dX12_crowded_91 hl (by decide) rfl (fun ls hl => ?_)
          refine lv_iinc (v := (x5 + (1 : Int32))) (lv' := [(5, .int (x5 + (1 : Int32))), (4, .int v5), (0, .ref (b + 306)), (1, .int a1), (2, .int x2), (3, .int x3)]) hx hb dX12_crowded_93 hl (k := 5) rfl rfl (by decide) rfl (fun ls hl => ?_)
          refine lv_goto (tgt := 44) hx hb dX12_crowded_96 (by decide) ?_
          exact hk44 _ _ _ _ _ _ _ _ h hW hS (lv_sub hl [2, 3, 4, 5, 1, 0] rfl)
        · replace h := (if_neg cc).symm.trans h
          refine lv_aload_n hx hb dX12_crowded_69 rfl (lv_at hl 0 rfl) ?_
          refine lv_iload hx hb dX12_crowded_70 (lv_at hl 5 rfl) ?_
          obtain ⟨r6, qr6, h⟩ := ob h
          refine k_X12_beginnings F qr6 q_2134 ⟨Nat.le_of_ble_eq_true rfl, Nat.le_of_ble_eq_true rfl, Nat.le_of_ble_eq_true rfl, Nat.le_of_ble_eq_true rfl⟩ hW hS hl.1 (Nat.le_of_ble_eq_true rfl) dX12_crowded_72 (fun H locs hW hS => ?_)
          refine lv_iload_n hx hb dX12_crowded_75 rfl (lv_at hl 3 rfl) ?_
          refine lv_icmp_ne (tgt := 89) hx hb dX12_crowded_76 (by decide) (fun cc => ?_) (fun cc => ?_)
          · replace h := (if_neg cc).symm.trans h
            refine lv_iconst (v := (0 : Int32)) hx hb dX12_crowded_89 (by decide) ?_
            refine lv_iadd hx hb dX12_crowded_90 ?_
            obtain ⟨v7, ev7⟩ : ∃ y, y = (x4 + (0 : Int32)) := ⟨_, rfl⟩
            have h := nm_at ev7 h
            rw [← ev7]
            refine lv_istore (lv' := [(4, .int v7), (0, .ref (b + 306)), (1, .int a1), (2, .int x2), (3, .int x3), (5, .int x5)]) hx hb dX12_crowded_91 hl (by decide) rfl (fun ls hl => ?_)
            refine lv_iinc (v := (x5 + (1 : Int32))) (lv' := [(5, .int (x5 + (1 : Int32))), (4, .int v7), (0, .ref (b + 306)), (1, .int a1), (2, .int x2), (3, .int x3)]) hx hb dX12_crowded_93 hl (k := 5) rfl rfl (by decide) rfl (fun ls hl => ?_)
            refine lv_goto (tgt := 44) hx hb dX12_crowded_96 (by decide) ?_
            exact hk44 _ _ _ _ _ _ _ _ h hW hS (lv_sub hl [2, 3, 4, 5, 1, 0] rfl)
          · replace h := (if_pos cc).symm.trans h
            refine lv_iload hx hb dX12_crowded_79 (lv_at hl 5 rfl) ?_
            refine lv_iload_n hx hb dX12_crowded_81 rfl (lv_at hl 2 rfl) ?_
            refine lv_icmp_ge (tgt := 89) hx hb dX12_crowded_82 (by decide) (fun cc => ?_) (fun cc => ?_)
            · replace h := (if_pos cc).symm.trans h
              refine lv_iconst (v := (0 : Int32)) hx hb dX12_crowded_89 (by decide) ?_
              refine lv_iadd hx hb dX12_crowded_90 ?_
              obtain ⟨v8, ev8⟩ : ∃ y, y = (x4 + (0 : Int32)) := ⟨_, rfl⟩
              have h := nm_at ev8 h
              rw [← ev8]
              refine lv_istore (lv' := [(4, .int v8), (0, .ref (b + 306)), (1, .int a1), (2, .int x2), (3, .int x3), (5, .int x5)]) hx hb dX12_crowded_91 hl (by decide) rfl (fun ls hl => ?_)
              refine lv_iinc (v := (x5 + (1 : Int32))) (lv' := [(5, .int (x5 + (1 : Int32))), (4, .int v8), (0, .ref (b + 306)), (1, .int a1), (2, .int x2), (3, .int x3)]) hx hb dX12_crowded_93 hl (k := 5) rfl rfl (by decide) rfl (fun ls hl => ?_)
              refine lv_goto (tgt := 44) hx hb dX12_crowded_96 (by decide) ?_
              exact hk44 _ _ _ _ _ _ _ _ h hW hS (lv_sub hl [2, 3, 4, 5, 1, 0] rfl)
            · replace h := (if_neg cc).symm.trans h
              refine lv_iconst (v := (1 : Int32)) hx hb dX12_crowded_85 (by decide) ?_
              refine lv_goto (tgt := 90) hx hb dX12_crowded_86 (by decide) ?_
              refine lv_iadd hx hb dX12_crowded_90 ?_
              obtain ⟨v9, ev9⟩ : ∃ y, y = (x4 + (1 : Int32)) := ⟨_, rfl⟩
              have h := nm_at ev9 h
              rw [← ev9]
              refine lv_istore (lv' := [(4, .int v9), (0, .ref (b + 306)), (1, .int a1), (2, .int x2), (3, .int x3), (5, .int x5)]) hx hb dX12_crowded_91 hl (by decide) rfl (fun ls hl => ?_)
              refine lv_iinc (v := (x5 + (1 : Int32))) (lv' := [(5, .int (x5 + (1 : Int32))), (4, .int v9), (0, .ref (b + 306)), (1, .int a1), (2, .int x2), (3, .int x3)]) hx hb dX12_crowded_93 hl (k := 5) rfl rfl (by decide) rfl (fun ls hl => ?_)
              refine lv_goto (tgt := 44) hx hb dX12_crowded_96 (by decide) ?_
              exact hk44 _ _ _ _ _ _ _ _ h hW hS (lv_sub hl [2, 3, 4, 5, 1, 0] rfl)
set_option maxHeartbeats 4000000 in
set_option maxRecDepth 100000 in
theorem wk_X12_crowded_24 {n : Nat} {a1 : Int32} {out : (Int32 × Mm)} (F : FX (fg G) b RX12 cX12_crowded 6 p s m args meth c) (hr : meth.sig.returnType = some .int) : ∀ (f : Nat) (x2 : Int32) (μ : Mm) (H : Heap) (locs : List Loc) (ls : Array Slot), sh_X12_crowded_24 n a1 f x2 μ = some out → WH (fg G) b μ H → va_S (fb b) s.heap H locs → lv_has ls 6 [(0, .ref (b + 306)), (1, .int a1), (2, .int x2)] → W p l e ({ frames := 9, cells := 0, slots := 0, locals := 205 } : Room) s m args below meth c H locs 0 0 (MQ below (QW (fg G) b out.2 (some (.int out.1))) args s 0 0 (fb b)) (F0 m 24 ls []) := by
  have hx := F.1
  have hb := F.2.1
  intro f
  induction f with
  | zero =>
    intro _ _ _ _ _ h
    rw [sh_X12_crowded_24] at h
    cases h
  | succ f ih =>
    intro x2 μ H locs ls h hW hS hl
    rw [sh_X12_crowded_24] at h
    have hk24 := ih
    refine lv_iload_n hx hb dX12_crowded_24 rfl (lv_at hl 2 rfl) ?_
    refine lv_aload_n hx hb dX12_crowded_25 rfl (lv_at hl 0 rfl) ?_
    refine fl_get12 (v := .int (μ.1 306 24)) kyf_306 F hW 24 (by decide) q_1495 rfl rfl dX12_crowded_26 ?_
    refine lv_icmp_gt (tgt := 117) hx hb dX12_crowded_29 (by decide) (fun cc => ?_) (fun cc => ?_)
    · replace h := (if_pos cc).symm.trans h
      refine lv_iconst (v := (-1 : Int32)) hx hb dX12_crowded_117 (by decide) ?_
      cases h
      exact r_int F hr hW hS dX12_crowded_118
    · replace h := (if_neg cc).symm.trans h
      refine lv_aload_n hx hb dX12_crowded_32 rfl (lv_at hl 0 rfl) ?_
      refine lv_iload_n hx hb dX12_crowded_33 rfl (lv_at hl 2 rfl) ?_
      obtain ⟨r3, qr3, h⟩ := ob h
      refine k_X12_beginnings F qr3 q_2134 ⟨Nat.le_of_ble_eq_true rfl, Nat.le_of_ble_eq_true rfl, Nat.le_of_ble_eq_true rfl, Nat.le_of_ble_eq_true rfl⟩ hW hS hl.1 (Nat.le_of_ble_eq_true rfl) dX12_crowded_34 (fun H locs hW hS => ?_)
      refine lv_istore_n (lv' := [(3, .int r3), (0, .ref (b + 306)), (1, .int a1), (2, .int x2)]) hx hb dX12_crowded_37 rfl hl (by decide) rfl (fun ls hl => ?_)
      refine lv_iconst (v := (0 : Int32)) hx hb dX12_crowded_38 (by decide) ?_
      refine lv_istore (lv' := [(4, .int (0 : Int32)), (3, .int r3), (0, .ref (b + 306)), (1, .int a1), (2, .int x2)]) hx hb dX12_crowded_39 hl (by decide) rfl (fun ls hl => ?_)
      refine lv_iconst (v := (1 : Int32)) hx hb dX12_crowded_41 (by decide) ?_
      refine lv_istore (lv' := [(5, .int (1 : Int32)), (4, .int (0 : Int32)), (3, .int r3), (0, .ref (b + 306)), (1, .int a1), (2, .int x2)]) hx hb dX12_crowded_42 hl (by decide) rfl (fun ls hl => ?_)
      exact wk_X12_crowded_44 F hr hk24 n _ _ _ _ _ _ _ _ h hW hS (lv_sub hl [3, 4, 5, 2, 1, 0] rfl)
set_option maxHeartbeats 4000000 in
set_option maxRecDepth 100000 in
theorem wk_X12_crowded_10 {n : Nat} {a1 : Int32} {s1 : Int32} {μ : Mm} {out : (Int32 × Mm)} (F : FX (fg G) b RX12 cX12_crowded 6 p s m args meth c) (hr : meth.sig.returnType = some .int) (h : sh_X12_crowded_10 n a1 s1 μ = some out) (hW : WH (fg G) b μ H) (hS : va_S (fb b) s.heap H locs) (hl : lv_has ls 6 [(0, .ref (b + 306)), (1, .int a1)]) : W p l e ({ frames := 9, cells := 0, slots := 0, locals := 205 } : Room) s m args below meth c H locs 0 0 (MQ below (QW (fg G) b out.2 (some (.int out.1))) args s 0 0 (fb b)) (F0 m 10 ls [.int s1, .ref (b + 306)]) := by
  have hx := F.1
  have hb := F.2.1
  unfold sh_X12_crowded_10 at h
  obtain ⟨r1, qr1, h⟩ := ob h
  refine k_X12_passes F qr1 q_1627 ⟨Nat.le_of_ble_eq_true rfl, Nat.le_of_ble_eq_true rfl, Nat.le_of_ble_eq_true rfl, Nat.le_of_ble_eq_true rfl⟩ hW hS hl.1 (Nat.le_of_ble_eq_true rfl) dX12_crowded_10 (fun H locs hW hS => ?_)
  refine lv_if_ne (tgt := 18) hx hb dX12_crowded_13 (by decide) (fun cc => ?_) (fun cc => ?_)
  · replace h := (if_neg cc).symm.trans h
    refine lv_aload_n hx hb dX12_crowded_18 rfl (lv_at hl 0 rfl) ?_
    obtain ⟨r2, qr2, h⟩ := ob h
    refine k_X12_lay F qr2 q_1764 ⟨Nat.le_of_ble_eq_true rfl, Nat.le_of_ble_eq_true rfl, Nat.le_of_ble_eq_true rfl, Nat.le_of_ble_eq_true rfl⟩ hW hS hl.1 (Nat.le_of_ble_eq_true rfl) dX12_crowded_19 (fun H locs hW hS => ?_)
    refine lv_iconst (v := (1 : Int32)) hx hb dX12_crowded_22 (by decide) ?_
    refine lv_istore_n (lv' := [(2, .int (1 : Int32)), (0, .ref (b + 306)), (1, .int a1)]) hx hb dX12_crowded_23 rfl hl (by decide) rfl (fun ls hl => ?_)
    exact wk_X12_crowded_24 F hr n _ _ _ _ _ h hW hS (lv_sub hl [1, 2, 0] rfl)
  · replace h := (if_pos cc).symm.trans h
    refine lv_iconst (v := (0 : Int32)) hx hb dX12_crowded_16 (by decide) ?_
    cases h
    exact r_int F hr hW hS dX12_crowded_17
set_option maxHeartbeats 4000000 in
set_option maxRecDepth 100000 in
theorem wk_X12_crowded {n : Nat} {a1 : Int32} {μ : Mm} {out : (Int32 × Mm)} (F : FX (fg G) b RX12 cX12_crowded 6 p s m args meth c) (hr : meth.sig.returnType = some .int) (h : sh_X12_crowded n a1 μ = some out) (hW : WH (fg G) b μ H) (hS : va_S (fb b) s.heap H locs) (hl : lv_has ls 6 [(0, .ref (b + 306)), (1, .int a1)]) : W p l e ({ frames := 9, cells := 0, slots := 0, locals := 205 } : Room) s m args below meth c H locs 0 0 (MQ below (QW (fg G) b out.2 (some (.int out.1))) args s 0 0 (fb b)) (F0 m 0 ls []) := by
  have hx := F.1
  have hb := F.2.1
  unfold sh_X12_crowded at h
  refine lv_aload_n hx hb dX12_crowded_0 rfl (lv_at hl 0 rfl) ?_
  refine lv_iload_n hx hb dX12_crowded_1 rfl (lv_at hl 1 rfl) ?_
  refine lv_if_lt (tgt := 9) hx hb dX12_crowded_2 (by decide) (fun cc => ?_) (fun cc => ?_)
  · replace h := (if_pos cc).symm.trans h
    refine lv_iconst (v := (0 : Int32)) hx hb dX12_crowded_9 (by decide) ?_
    exact wk_X12_crowded_10 F hr h hW hS (lv_sub hl [0, 1] rfl)
  · replace h := (if_neg cc).symm.trans h
    refine lv_iconst (v := (1 : Int32)) hx hb dX12_crowded_5 (by decide) ?_
    refine lv_goto (tgt := 10) hx hb dX12_crowded_6 (by decide) ?_
    exact wk_X12_crowded_10 F hr h hW hS (lv_sub hl [0, 1] rfl)
set_option maxHeartbeats 4000000 in
set_option maxRecDepth 100000 in
theorem c_X12_crowded {l : Launch} {G : Gt} {b : Nat} {n : Nat} {a1 : Int32} {μ : Mm} {out : (Int32 × Mm)} (h : sh_X12_crowded n a1 μ = some out) : Met l yX12_crowded (wU (Cond.code yX12_crowded cX12_crowded 6 (some .int))) ({ frames := 9, cells := 0, slots := 0, locals := 205 } : Room) (PcW (fg G) b μ [.ref (b + 306), .int a1]) (QW (fg G) b out.2 (some (.int out.1))) 0 0 (fb b) :=
  met_of [.ref (b + 306), .int a1] (by decide) (Nat.le_of_ble_eq_true rfl) (fun F hr hW hl => wk_X12_crowded F hr h hW va_S.rf hl)
set_option maxHeartbeats 4000000 in
set_option maxRecDepth 100000 in
theorem k_X12_crowded {own : String} {nL : Nat} (F : FX (fg G) b own cc nL p s m args meth c) {n : Nat} {a1 : Int32} {μ : Mm} {out : (Int32 × Mm)} (h : sh_X12_crowded n a1 μ = some out) {index : Nat} (hl : Cond.methodLink own index yX12_crowded ∈ TBG) (hR : 9 + 1 ≤ R.frames ∧ 8 + (6 + 11) + 205 ≤ R.locals ∧ cells ≤ R.cells ∧ slots ≤ R.slots) (hW : WH (fg G) b μ H) (hS : va_S (fb b) s.heap H locs) (hsz : ls.size = nL) (hrest : (rest.map fun v => v.category).sum ≤ 8) (hdg : decode cc pc = .ok (.invokevirtual index, 3))
    (kk : ∀ (H1 : Heap) (locs1 : List Loc), WH (fg G) b out.2 H1 → va_S (fb b) s.heap H1 locs1 → W p l e R s m args below meth c H1 locs1 cells slots Q (F0 m (pc + 3) ls (.int out.1 :: rest))) : W p l e R s m args below meth c H locs cells slots Q (F0 m pc ls (.int a1 :: .ref (b + 306) :: rest)) :=
  f_callV (As := [.int a1]) (ci := 12) (c_X12_crowded h) ⟨rfl, rfl⟩ rfl (ky_lm kyf_306 (by decide)) (wF_12 kyf_306) q_2131 q_2132 q_14 q_2133 rfl ⟨by decide +kernel, by decide +kernel, (show (parseMethodDescriptor yX12_crowded.desc).map (fun d => d.parameters.length) = some 1 by decide +kernel)⟩ F hl hR hW hS hsz hrest rfl hdg kk
set_option maxHeartbeats 4000000 in
set_option maxRecDepth 100000 in
theorem wk_X12_longest_40 {n : Nat} {a1 : Int32} {k24 : (Int32 → Mm → Option (Int32 × Mm))} {out : (Int32 × Mm)} (F : FX (fg G) b RX12 cX12_longest 5 p s m args meth c) (hr : meth.sig.returnType = some .int) (hk24 : ∀ (x2 : Int32) (μ : Mm) (H : Heap) (locs : List Loc) (ls : Array Slot), k24 x2 μ = some out → WH (fg G) b μ H → va_S (fb b) s.heap H locs → lv_has ls 5 [(0, .ref (b + 306)), (1, .int a1), (2, .int x2)] → W p l e ({ frames := 6, cells := 0, slots := 0, locals := 135 } : Room) s m args below meth c H locs 0 0 (MQ below (QW (fg G) b out.2 (some (.int out.1))) args s 0 0 (fb b)) (F0 m 24 ls [])) : ∀ (f : Nat) (x2 : Int32) (x3 : Int32) (x4 : Int32) (μ : Mm) (H : Heap) (locs : List Loc) (ls : Array Slot), sh_X12_longest_40 n a1 k24 f x2 x3 x4 μ = some out → WH (fg G) b μ H → va_S (fb b) s.heap H locs → lv_has ls 5 [(0, .ref (b + 306)), (1, .int a1), (2, .int x2), (3, .int x3), (4, .int x4)] → W p l e ({ frames := 6, cells := 0, slots := 0, locals := 135 } : Room) s m args below meth c H locs 0 0 (MQ below (QW (fg G) b out.2 (some (.int out.1))) args s 0 0 (fb b)) (F0 m 40 ls []) := by
  have hx := F.1
  have hb := F.2.1
  intro f
  induction f with
  | zero =>
    intro _ _ _ _ _ _ _ h
    rw [sh_X12_longest_40] at h
    cases h
  | succ f ih =>
    intro x2 x3 x4 μ H locs ls h hW hS hl
    rw [sh_X12_longest_40] at h
    have hk40 := ih
    refine lv_iload hx hb dX12_longest_40 (lv_at hl 4 rfl) ?_
    refine lv_aload_n hx hb dX12_longest_42 rfl (lv_at hl 0 rfl) ?_
    refine fl_get12 (v := .ref (b + 307)) kyf_306 F hW 1 (by decide) q_1472 rfl rfl dX12_longest_43 ?_
    refine lv_bipush (v := (9 : Int32)) hx hb dX12_longest_46 (by decide) ?_
    obtain ⟨v4, qv4, h⟩ := ob h
    refine fm_iald kyf_307 F hW qv4 dX12_longest_48 ?_
    refine lv_icmp_ge (tgt := 100) hx hb dX12_longest_49 (by decide) (fun cc => ?_) (fun cc => ?_)
    · replace h := (if_pos cc).symm.trans h
      refine lv_iload_n hx hb dX12_longest_100 rfl (lv_at hl 3 rfl) ?_
      refine lv_iload_n hx hb dX12_longest_101 rfl (lv_at hl 1 rfl) ?_
      refine lv_icmp_ne (tgt := 107) hx hb dX12_longest_102 (by decide) (fun cc => ?_) (fun cc => ?_)
      · replace h := (if_neg cc).symm.trans h
        refine lv_iinc (v := (x2 + (1 : Int32))) (lv' := [(2, .int (x2 + (1 : Int32))), (0, .ref (b + 306)), (1, .int a1), (3, .int x3), (4, .int x4)]) hx hb dX12_longest_107 hl (k := 2) rfl rfl (by decide) rfl (fun ls hl => ?_)
        refine lv_goto (tgt := 24) hx hb dX12_longest_110 (by decide) ?_
        exact hk24 _ _ _ _ _ h hW hS (lv_sub hl [1, 2, 0] rfl)
      · replace h := (if_pos cc).symm.trans h
        refine lv_iload_n hx hb dX12_longest_105 rfl (lv_at hl 2 rfl) ?_
        cases h
        exact r_int F hr hW hS dX12_longest_106
    · replace h := (if_neg cc).symm.trans h
      refine lv_iload_n hx hb dX12_longest_52 rfl (lv_at hl 3 rfl) ?_
      refine lv_aload_n hx hb dX12_longest_53 rfl (lv_at hl 0 rfl) ?_
      refine lv_iload hx hb dX12_longest_54 (lv_at hl 4 rfl) ?_
      obtain ⟨r5, qr5, h⟩ := ob h
      refine k_X12_titleOf F qr5 q_1885 ⟨Nat.le_of_ble_eq_true rfl, Nat.le_of_ble_eq_true rfl, Nat.le_of_ble_eq_true rfl, Nat.le_of_ble_eq_true rfl⟩ hW hS hl.1 (Nat.le_of_ble_eq_true rfl) dX12_longest_56 (fun H locs hW hS => ?_)
      refine lv_aload_n hx hb dX12_longest_59 rfl (lv_at hl 0 rfl) ?_
      refine lv_iload_n hx hb dX12_longest_60 rfl (lv_at hl 2 rfl) ?_
      obtain ⟨r6, qr6, h⟩ := ob h
      refine k_X12_titleOf F qr6 q_1885 ⟨Nat.le_of_ble_eq_true rfl, Nat.le_of_ble_eq_true rfl, Nat.le_of_ble_eq_true rfl, Nat.le_of_ble_eq_true rfl⟩ hW hS hl.1 (Nat.le_of_ble_eq_true rfl) dX12_longest_61 (fun H locs hW hS => ?_)
      refine lv_icmp_gt (tgt := 87) hx hb dX12_longest_64 (by decide) (fun cc => ?_) (fun cc => ?_)
      · replace h := (if_pos cc).symm.trans h
        refine lv_iconst (v := (1 : Int32)) hx hb dX12_longest_87 (by decide) ?_
        refine lv_goto (tgt := 92) hx hb dX12_longest_88 (by decide) ?_
        refine lv_iadd hx hb dX12_longest_92 ?_
        obtain ⟨v7, ev7⟩ : ∃ y, y = (x3 + (1 : Int32)) := ⟨_, rfl⟩
        have h := nm_at ev7 h
        rw [← ev7]
        refine lv_istore_n (lv' := [(3, .int v7), (0, .ref (b + 306)), (1, .int a1), (2, .int x2), (4, .int x4)]) hx hb dX12_longest_93 rfl hl (by decide) rfl (fun ls hl => ?_)
        refine lv_iinc (v := (x4 + (1 : Int32))) (lv' := [(4, .int (x4 + (1 : Int32))), (3, .int v7), (0, .ref (b + 306)), (1, .int a1), (2, .int x2)]) hx hb dX12_longest_94 hl (k := 4) rfl rfl (by decide) rfl (fun ls hl => ?_)
        refine lv_goto (tgt := 40) hx hb dX12_longest_97 (by decide) ?_
        exact hk40 _ _ _ _ _ _ _ h hW hS (lv_sub hl [2, 3, 4, 1, 0] rfl)
      · replace h := (if_neg cc).symm.trans h
        refine lv_aload_n hx hb dX12_longest_67 rfl (lv_at hl 0 rfl) ?_
        refine lv_iload hx hb dX12_longest_68 (lv_at hl 4 rfl) ?_
        obtain ⟨r8, qr8, h⟩ := ob h
        refine k_X12_titleOf F qr8 q_1885 ⟨Nat.le_of_ble_eq_true rfl, Nat.le_of_ble_eq_true rfl, Nat.le_of_ble_eq_true rfl, Nat.le_of_ble_eq_true rfl⟩ hW hS hl.1 (Nat.le_of_ble_eq_true rfl) dX12_longest_70 (fun H locs hW hS => ?_)
        refine lv_aload_n hx hb dX12_longest_73 rfl (lv_at hl 0 rfl) ?_
        refine lv_iload_n hx hb dX12_longest_74 rfl (lv_at hl 2 rfl) ?_
        obtain ⟨r9, qr9, h⟩ := ob h
        refine k_X12_titleOf F qr9 q_1885 ⟨Nat.le_of_ble_eq_true rfl, Nat.le_of_ble_eq_true rfl, Nat.le_of_ble_eq_true rfl, Nat.le_of_ble_eq_true rfl⟩ hW hS hl.1 (Nat.le_of_ble_eq_true rfl) dX12_longest_75 (fun H locs hW hS => ?_)
        refine lv_icmp_ne (tgt := 91) hx hb dX12_longest_78 (by decide) (fun cc => ?_) (fun cc => ?_)
        · replace h := (if_neg cc).symm.trans h
          refine lv_iconst (v := (0 : Int32)) hx hb dX12_longest_91 (by decide) ?_
          refine lv_iadd hx hb dX12_longest_92 ?_
          obtain ⟨v10, ev10⟩ : ∃ y, y = (x3 + (0 : Int32)) := ⟨_, rfl⟩
          have h := nm_at ev10 h
          rw [← ev10]
          refine lv_istore_n (lv' := [(3, .int v10), (0, .ref (b + 306)), (1, .int a1), (2, .int x2), (4, .int x4)]) hx hb dX12_longest_93 rfl hl (by decide) rfl (fun ls hl => ?_)
          refine lv_iinc (v := (x4 + (1 : Int32))) (lv' := [(4, .int (x4 + (1 : Int32))), (3, .int v10), (0, .ref (b + 306)), (1, .int a1), (2, .int x2)]) hx hb dX12_longest_94 hl (k := 4) rfl rfl (by decide) rfl (fun ls hl => ?_)
          refine lv_goto (tgt := 40) hx hb dX12_longest_97 (by decide) ?_
          exact hk40 _ _ _ _ _ _ _ h hW hS (lv_sub hl [2, 3, 4, 1, 0] rfl)
        · replace h := (if_pos cc).symm.trans h
          refine lv_iload hx hb dX12_longest_81 (lv_at hl 4 rfl) ?_
          refine lv_iload_n hx hb dX12_longest_83 rfl (lv_at hl 2 rfl) ?_
          refine lv_icmp_ge (tgt := 91) hx hb dX12_longest_84 (by decide) (fun cc => ?_) (fun cc => ?_)
          · replace h := (if_pos cc).symm.trans h
            refine lv_iconst (v := (0 : Int32)) hx hb dX12_longest_91 (by decide) ?_
            refine lv_iadd hx hb dX12_longest_92 ?_
            obtain ⟨v11, ev11⟩ : ∃ y, y = (x3 + (0 : Int32)) := ⟨_, rfl⟩
            have h := nm_at ev11 h
            rw [← ev11]
            refine lv_istore_n (lv' := [(3, .int v11), (0, .ref (b + 306)), (1, .int a1), (2, .int x2), (4, .int x4)]) hx hb dX12_longest_93 rfl hl (by decide) rfl (fun ls hl => ?_)
            refine lv_iinc (v := (x4 + (1 : Int32))) (lv' := [(4, .int (x4 + (1 : Int32))), (3, .int v11), (0, .ref (b + 306)), (1, .int a1), (2, .int x2)]) hx hb dX12_longest_94 hl (k := 4) rfl rfl (by decide) rfl (fun ls hl => ?_)
            refine lv_goto (tgt := 40) hx hb dX12_longest_97 (by decide) ?_
            exact hk40 _ _ _ _ _ _ _ h hW hS (lv_sub hl [2, 3, 4, 1, 0] rfl)
          · replace h := (if_neg cc).symm.trans h
            refine lv_iconst (v := (1 : Int32)) hx hb dX12_longest_87 (by decide) ?_
            refine lv_goto (tgt := 92) hx hb dX12_longest_88 (by decide) ?_
            refine lv_iadd hx hb dX12_longest_92 ?_
            obtain ⟨v12, ev12⟩ : ∃ y, y = (x3 + (1 : Int32)) := ⟨_, rfl⟩
            have h := nm_at ev12 h
            rw [← ev12]
            refine lv_istore_n (lv' := [(3, .int v12), (0, .ref (b + 306)), (1, .int a1), (2, .int x2), (4, .int x4)]) hx hb dX12_longest_93 rfl hl (by decide) rfl (fun ls hl => ?_)
            refine lv_iinc (v := (x4 + (1 : Int32))) (lv' := [(4, .int (x4 + (1 : Int32))), (3, .int v12), (0, .ref (b + 306)), (1, .int a1), (2, .int x2)]) hx hb dX12_longest_94 hl (k := 4) rfl rfl (by decide) rfl (fun ls hl => ?_)
            refine lv_goto (tgt := 40) hx hb dX12_longest_97 (by decide) ?_
            exact hk40 _ _ _ _ _ _ _ h hW hS (lv_sub hl [2, 3, 4, 1, 0] rfl)
set_option maxHeartbeats 4000000 in
set_option maxRecDepth 100000 in
theorem wk_X12_longest_24 {n : Nat} {a1 : Int32} {out : (Int32 × Mm)} (F : FX (fg G) b RX12 cX12_longest 5 p s m args meth c) (hr : meth.sig.returnType = some .int) : ∀ (f : Nat) (x2 : Int32) (μ : Mm) (H : Heap) (locs : List Loc) (ls : Array Slot), sh_X12_longest_24 n a1 f x2 μ = some out → WH (fg G) b μ H → va_S (fb b) s.heap H locs → lv_has ls 5 [(0, .ref (b + 306)), (1, .int a1), (2, .int x2)] → W p l e ({ frames := 6, cells := 0, slots := 0, locals := 135 } : Room) s m args below meth c H locs 0 0 (MQ below (QW (fg G) b out.2 (some (.int out.1))) args s 0 0 (fb b)) (F0 m 24 ls []) := by
  have hx := F.1
  have hb := F.2.1
  intro f
  induction f with
  | zero =>
    intro _ _ _ _ _ h
    rw [sh_X12_longest_24] at h
    cases h
  | succ f ih =>
    intro x2 μ H locs ls h hW hS hl
    rw [sh_X12_longest_24] at h
    have hk24 := ih
    refine lv_iload_n hx hb dX12_longest_24 rfl (lv_at hl 2 rfl) ?_
    refine lv_aload_n hx hb dX12_longest_25 rfl (lv_at hl 0 rfl) ?_
    refine fl_get12 (v := .ref (b + 307)) kyf_306 F hW 1 (by decide) q_1472 rfl rfl dX12_longest_26 ?_
    refine lv_bipush (v := (9 : Int32)) hx hb dX12_longest_29 (by decide) ?_
    obtain ⟨v3, qv3, h⟩ := ob h
    refine fm_iald kyf_307 F hW qv3 dX12_longest_31 ?_
    refine lv_icmp_ge (tgt := 113) hx hb dX12_longest_32 (by decide) (fun cc => ?_) (fun cc => ?_)
    · replace h := (if_pos cc).symm.trans h
      refine lv_iconst (v := (-1 : Int32)) hx hb dX12_longest_113 (by decide) ?_
      cases h
      exact r_int F hr hW hS dX12_longest_114
    · replace h := (if_neg cc).symm.trans h
      refine lv_iconst (v := (0 : Int32)) hx hb dX12_longest_35 (by decide) ?_
      refine lv_istore_n (lv' := [(3, .int (0 : Int32)), (0, .ref (b + 306)), (1, .int a1), (2, .int x2)]) hx hb dX12_longest_36 rfl hl (by decide) rfl (fun ls hl => ?_)
      refine lv_iconst (v := (0 : Int32)) hx hb dX12_longest_37 (by decide) ?_
      refine lv_istore (lv' := [(4, .int (0 : Int32)), (3, .int (0 : Int32)), (0, .ref (b + 306)), (1, .int a1), (2, .int x2)]) hx hb dX12_longest_38 hl (by decide) rfl (fun ls hl => ?_)
      exact wk_X12_longest_40 F hr hk24 n _ _ _ _ _ _ _ h hW hS (lv_sub hl [2, 3, 4, 1, 0] rfl)
set_option maxHeartbeats 4000000 in
set_option maxRecDepth 100000 in
theorem wk_X12_longest_10 {n : Nat} {a1 : Int32} {s1 : Int32} {μ : Mm} {out : (Int32 × Mm)} (F : FX (fg G) b RX12 cX12_longest 5 p s m args meth c) (hr : meth.sig.returnType = some .int) (h : sh_X12_longest_10 n a1 s1 μ = some out) (hW : WH (fg G) b μ H) (hS : va_S (fb b) s.heap H locs) (hl : lv_has ls 5 [(0, .ref (b + 306)), (1, .int a1)]) : W p l e ({ frames := 6, cells := 0, slots := 0, locals := 135 } : Room) s m args below meth c H locs 0 0 (MQ below (QW (fg G) b out.2 (some (.int out.1))) args s 0 0 (fb b)) (F0 m 10 ls [.int s1, .ref (b + 306)]) := by
  have hx := F.1
  have hb := F.2.1
  unfold sh_X12_longest_10 at h
  obtain ⟨r1, qr1, h⟩ := ob h
  refine k_X12_passes F qr1 q_1627 ⟨Nat.le_of_ble_eq_true rfl, Nat.le_of_ble_eq_true rfl, Nat.le_of_ble_eq_true rfl, Nat.le_of_ble_eq_true rfl⟩ hW hS hl.1 (Nat.le_of_ble_eq_true rfl) dX12_longest_10 (fun H locs hW hS => ?_)
  refine lv_if_ne (tgt := 18) hx hb dX12_longest_13 (by decide) (fun cc => ?_) (fun cc => ?_)
  · replace h := (if_neg cc).symm.trans h
    refine lv_aload_n hx hb dX12_longest_18 rfl (lv_at hl 0 rfl) ?_
    obtain ⟨r2, qr2, h⟩ := ob h
    refine k_X12_layLabels F qr2 q_1768 ⟨Nat.le_of_ble_eq_true rfl, Nat.le_of_ble_eq_true rfl, Nat.le_of_ble_eq_true rfl, Nat.le_of_ble_eq_true rfl⟩ hW hS hl.1 (Nat.le_of_ble_eq_true rfl) dX12_longest_19 (fun H locs hW hS => ?_)
    refine lv_iconst (v := (0 : Int32)) hx hb dX12_longest_22 (by decide) ?_
    refine lv_istore_n (lv' := [(2, .int (0 : Int32)), (0, .ref (b + 306)), (1, .int a1)]) hx hb dX12_longest_23 rfl hl (by decide) rfl (fun ls hl => ?_)
    exact wk_X12_longest_24 F hr n _ _ _ _ _ h hW hS (lv_sub hl [1, 2, 0] rfl)
  · replace h := (if_pos cc).symm.trans h
    refine lv_iconst (v := (0 : Int32)) hx hb dX12_longest_16 (by decide) ?_
    cases h
    exact r_int F hr hW hS dX12_longest_17
set_option maxHeartbeats 4000000 in
set_option maxRecDepth 100000 in
theorem wk_X12_longest {n : Nat} {a1 : Int32} {μ : Mm} {out : (Int32 × Mm)} (F : FX (fg G) b RX12 cX12_longest 5 p s m args meth c) (hr : meth.sig.returnType = some .int) (h : sh_X12_longest n a1 μ = some out) (hW : WH (fg G) b μ H) (hS : va_S (fb b) s.heap H locs) (hl : lv_has ls 5 [(0, .ref (b + 306)), (1, .int a1)]) : W p l e ({ frames := 6, cells := 0, slots := 0, locals := 135 } : Room) s m args below meth c H locs 0 0 (MQ below (QW (fg G) b out.2 (some (.int out.1))) args s 0 0 (fb b)) (F0 m 0 ls []) := by
  have hx := F.1
  have hb := F.2.1
  unfold sh_X12_longest at h
  refine lv_aload_n hx hb dX12_longest_0 rfl (lv_at hl 0 rfl) ?_
  refine lv_iload_n hx hb dX12_longest_1 rfl (lv_at hl 1 rfl) ?_
  refine lv_if_lt (tgt := 9) hx hb dX12_longest_2 (by decide) (fun cc => ?_) (fun cc => ?_)
  · replace h := (if_pos cc).symm.trans h
    refine lv_iconst (v := (0 : Int32)) hx hb dX12_longest_9 (by decide) ?_
    exact wk_X12_longest_10 F hr h hW hS (lv_sub hl [0, 1] rfl)
  · replace h := (if_neg cc).symm.trans h
    refine lv_iconst (v := (1 : Int32)) hx hb dX12_longest_5 (by decide) ?_
    refine lv_goto (tgt := 10) hx hb dX12_longest_6 (by decide) ?_
    exact wk_X12_longest_10 F hr h hW hS (lv_sub hl [0, 1] rfl)
set_option maxHeartbeats 4000000 in
set_option maxRecDepth 100000 in
theorem c_X12_longest {l : Launch} {G : Gt} {b : Nat} {n : Nat} {a1 : Int32} {μ : Mm} {out : (Int32 × Mm)} (h : sh_X12_longest n a1 μ = some out) : Met l yX12_longest (wU (Cond.code yX12_longest cX12_longest 5 (some .int))) ({ frames := 6, cells := 0, slots := 0, locals := 135 } : Room) (PcW (fg G) b μ [.ref (b + 306), .int a1]) (QW (fg G) b out.2 (some (.int out.1))) 0 0 (fb b) :=
  met_of [.ref (b + 306), .int a1] (by decide) (Nat.le_of_ble_eq_true rfl) (fun F hr hW hl => wk_X12_longest F hr h hW va_S.rf hl)
set_option maxHeartbeats 4000000 in
set_option maxRecDepth 100000 in
theorem k_X12_longest {own : String} {nL : Nat} (F : FX (fg G) b own cc nL p s m args meth c) {n : Nat} {a1 : Int32} {μ : Mm} {out : (Int32 × Mm)} (h : sh_X12_longest n a1 μ = some out) {index : Nat} (hl : Cond.methodLink own index yX12_longest ∈ TBG) (hR : 6 + 1 ≤ R.frames ∧ 8 + (5 + 11) + 135 ≤ R.locals ∧ cells ≤ R.cells ∧ slots ≤ R.slots) (hW : WH (fg G) b μ H) (hS : va_S (fb b) s.heap H locs) (hsz : ls.size = nL) (hrest : (rest.map fun v => v.category).sum ≤ 8) (hdg : decode cc pc = .ok (.invokevirtual index, 3))
    (kk : ∀ (H1 : Heap) (locs1 : List Loc), WH (fg G) b out.2 H1 → va_S (fb b) s.heap H1 locs1 → W p l e R s m args below meth c H1 locs1 cells slots Q (F0 m (pc + 3) ls (.int out.1 :: rest))) : W p l e R s m args below meth c H locs cells slots Q (F0 m pc ls (.int a1 :: .ref (b + 306) :: rest)) :=
  f_callV (As := [.int a1]) (ci := 12) (c_X12_longest h) ⟨rfl, rfl⟩ rfl (ky_lm kyf_306 (by decide)) (wF_12 kyf_306) q_2139 q_2140 q_14 q_2141 rfl ⟨by decide +kernel, by decide +kernel, (show (parseMethodDescriptor yX12_longest.desc).map (fun d => d.parameters.length) = some 1 by decide +kernel)⟩ F hl hR hW hS hsz hrest rfl hdg kk
set_option maxHeartbeats 4000000 in
set_option maxRecDepth 100000 in
theorem wk_X12_undo_33 {n : Nat} {out : (Int32 × Mm)} (F : FX (fg G) b RX12 cX12_undo 2 p s m args meth c) (hr : meth.sig.returnType = some .int) : ∀ (f : Nat) (x1 : Int32) (μ : Mm) (H : Heap) (locs : List Loc) (ls : Array Slot), sh_X12_undo_33 n f x1 μ = some out → WH (fg G) b μ H → va_S (fb b) s.heap H locs → lv_has ls 2 [(0, .ref (b + 306)), (1, .int x1)] → W p l e ({ frames := 2, cells := 0, slots := 0, locals := 44 } : Room) s m args below meth c H locs 0 0 (MQ below (QW (fg G) b out.2 (some (.int out.1))) args s 0 0 (fb b)) (F0 m 33 ls []) := by
  have hx := F.1
  have hb := F.2.1
  intro f
  induction f with
  | zero =>
    intro _ _ _ _ _ h
    rw [sh_X12_undo_33] at h
    cases h
  | succ f ih =>
    intro x1 μ H locs ls h hW hS hl
    rw [sh_X12_undo_33] at h
    have hk33 := ih
    refine lv_iload_n hx hb dX12_undo_33 rfl (lv_at hl 1 rfl) ?_
    refine lv_sipush (v := (18701 : Int32)) hx hb dX12_undo_34 (by decide) ?_
    refine lv_icmp_ge (tgt := 67) hx hb dX12_undo_37 (by decide) (fun cc => ?_) (fun cc => ?_)
    · replace h := (if_pos cc).symm.trans h
      refine lv_aload_n hx hb dX12_undo_67 rfl (lv_at hl 0 rfl) ?_
      refine fl_get12 (v := .int (μ.1 306 47)) kyf_306 F hW 47 (by decide) q_1518 rfl rfl dX12_undo_68 ?_
      cases h
      exact r_int F hr hW hS dX12_undo_71
    · replace h := (if_neg cc).symm.trans h
      refine lv_aload_n hx hb dX12_undo_40 rfl (lv_at hl 0 rfl) ?_
      refine fl_get12 (v := .ref (b + 307)) kyf_306 F hW 1 (by decide) q_1472 rfl rfl dX12_undo_41 ?_
      refine lv_iload_n hx hb dX12_undo_44 rfl (lv_at hl 1 rfl) ?_
      refine lv_aload_n hx hb dX12_undo_45 rfl (lv_at hl 0 rfl) ?_
      refine fl_get12 (v := .ref (b + 329)) kyf_306 F hW 46 (by decide) q_1517 rfl rfl dX12_undo_46 ?_
      refine lv_sipush (v := (18701 : Int32)) hx hb dX12_undo_49 (by decide) ?_
      refine lv_aload_n hx hb dX12_undo_52 rfl (lv_at hl 0 rfl) ?_
      refine fl_get12 (v := .int (μ.1 306 47)) kyf_306 F hW 47 (by decide) q_1518 rfl rfl dX12_undo_53 ?_
      refine lv_imul hx hb dX12_undo_56 ?_
      refine lv_iload_n hx hb dX12_undo_57 rfl (lv_at hl 1 rfl) ?_
      refine lv_iadd hx hb dX12_undo_58 ?_
      obtain ⟨v3, qv3, h⟩ := ob h
      refine fm_iald kyf_329 F hW qv3 dX12_undo_59 ?_
      obtain ⟨μ4, qμ4, h⟩ := ob h
      refine fm_iast kyf_307 F hW hS qμ4 dX12_undo_60 (fun H locs hW hS => ?_)
      refine lv_iinc (v := (x1 + (1 : Int32))) (lv' := [(1, .int (x1 + (1 : Int32))), (0, .ref (b + 306))]) hx hb dX12_undo_61 hl (k := 1) rfl rfl (by decide) rfl (fun ls hl => ?_)
      refine lv_goto (tgt := 33) hx hb dX12_undo_64 (by decide) ?_
      exact hk33 _ _ _ _ _ h hW hS (lv_sub hl [1, 0] rfl)
set_option maxHeartbeats 4000000 in
set_option maxRecDepth 100000 in
theorem wk_X12_undo_13 {n : Nat} {s1 : Int32} {μ : Mm} {out : (Int32 × Mm)} (F : FX (fg G) b RX12 cX12_undo 2 p s m args meth c) (hr : meth.sig.returnType = some .int) (h : sh_X12_undo_13 n s1 μ = some out) (hW : WH (fg G) b μ H) (hS : va_S (fb b) s.heap H locs) (hl : lv_has ls 2 [(0, .ref (b + 306))]) : W p l e ({ frames := 2, cells := 0, slots := 0, locals := 44 } : Room) s m args below meth c H locs 0 0 (MQ below (QW (fg G) b out.2 (some (.int out.1))) args s 0 0 (fb b)) (F0 m 13 ls [.int s1, .ref (b + 306)]) := by
  have hx := F.1
  have hb := F.2.1
  unfold sh_X12_undo_13 at h
  obtain ⟨r1, qr1, h⟩ := ob h
  refine k_X12_passes F qr1 q_1627 ⟨Nat.le_of_ble_eq_true rfl, Nat.le_of_ble_eq_true rfl, Nat.le_of_ble_eq_true rfl, Nat.le_of_ble_eq_true rfl⟩ hW hS hl.1 (Nat.le_of_ble_eq_true rfl) dX12_undo_13 (fun H locs hW hS => ?_)
  refine lv_if_ne (tgt := 21) hx hb dX12_undo_16 (by decide) (fun cc => ?_) (fun cc => ?_)
  · replace h := (if_neg cc).symm.trans h
    refine lv_aload_n hx hb dX12_undo_21 rfl (lv_at hl 0 rfl) ?_
    refine lv_dup hx hb dX12_undo_22 rfl ?_
    refine fl_get12 (v := .int (r1.2.1 306 47)) kyf_306 F hW 47 (by decide) q_1518 rfl rfl dX12_undo_23 ?_
    refine lv_iconst (v := (1 : Int32)) hx hb dX12_undo_26 (by decide) ?_
    refine lv_isub hx hb dX12_undo_27 ?_
    obtain ⟨μ2, hmμ2, h⟩ := ob h
    refine fl_put12_47 kyf_306 F hW hS q_1518 hmμ2 dX12_undo_28 (fun H locs hW hS => ?_)
    refine lv_iconst (v := (0 : Int32)) hx hb dX12_undo_31 (by decide) ?_
    refine lv_istore_n (lv' := [(1, .int (0 : Int32)), (0, .ref (b + 306))]) hx hb dX12_undo_32 rfl hl (by decide) rfl (fun ls hl => ?_)
    exact wk_X12_undo_33 F hr n _ _ _ _ _ h hW hS (lv_sub hl [1, 0] rfl)
  · replace h := (if_pos cc).symm.trans h
    refine lv_iconst (v := (0 : Int32)) hx hb dX12_undo_19 (by decide) ?_
    cases h
    exact r_int F hr hW hS dX12_undo_20
set_option maxHeartbeats 4000000 in
set_option maxRecDepth 100000 in
theorem wk_X12_undo {n : Nat} {μ : Mm} {out : (Int32 × Mm)} (F : FX (fg G) b RX12 cX12_undo 2 p s m args meth c) (hr : meth.sig.returnType = some .int) (h : sh_X12_undo n  μ = some out) (hW : WH (fg G) b μ H) (hS : va_S (fb b) s.heap H locs) (hl : lv_has ls 2 [(0, .ref (b + 306))]) : W p l e ({ frames := 2, cells := 0, slots := 0, locals := 44 } : Room) s m args below meth c H locs 0 0 (MQ below (QW (fg G) b out.2 (some (.int out.1))) args s 0 0 (fb b)) (F0 m 0 ls []) := by
  have hx := F.1
  have hb := F.2.1
  unfold sh_X12_undo at h
  refine lv_aload_n hx hb dX12_undo_0 rfl (lv_at hl 0 rfl) ?_
  refine lv_aload_n hx hb dX12_undo_1 rfl (lv_at hl 0 rfl) ?_
  refine fl_get12 (v := .int (μ.1 306 47)) kyf_306 F hW 47 (by decide) q_1518 rfl rfl dX12_undo_2 ?_
  refine lv_if_le (tgt := 12) hx hb dX12_undo_5 (by decide) (fun cc => ?_) (fun cc => ?_)
  · replace h := (if_pos cc).symm.trans h
    refine lv_iconst (v := (0 : Int32)) hx hb dX12_undo_12 (by decide) ?_
    exact wk_X12_undo_13 F hr h hW hS (lv_sub hl [0] rfl)
  · replace h := (if_neg cc).symm.trans h
    refine lv_iconst (v := (1 : Int32)) hx hb dX12_undo_8 (by decide) ?_
    refine lv_goto (tgt := 13) hx hb dX12_undo_9 (by decide) ?_
    exact wk_X12_undo_13 F hr h hW hS (lv_sub hl [0] rfl)
set_option maxHeartbeats 4000000 in
set_option maxRecDepth 100000 in
theorem c_X12_undo {l : Launch} {G : Gt} {b : Nat} {n : Nat} {μ : Mm} {out : (Int32 × Mm)} (h : sh_X12_undo n  μ = some out) : Met l yX12_undo (wU (Cond.code yX12_undo cX12_undo 2 (some .int))) ({ frames := 2, cells := 0, slots := 0, locals := 44 } : Room) (PcW (fg G) b μ [.ref (b + 306)]) (QW (fg G) b out.2 (some (.int out.1))) 0 0 (fb b) :=
  met_of [.ref (b + 306)] (by decide) (Nat.le_of_ble_eq_true rfl) (fun F hr hW hl => wk_X12_undo F hr h hW va_S.rf hl)
set_option maxHeartbeats 4000000 in
set_option maxRecDepth 100000 in
theorem k_X12_undo {own : String} {nL : Nat} (F : FX (fg G) b own cc nL p s m args meth c) {n : Nat} {μ : Mm} {out : (Int32 × Mm)} (h : sh_X12_undo n  μ = some out) {index : Nat} (hl : Cond.methodLink own index yX12_undo ∈ TBG) (hR : 2 + 1 ≤ R.frames ∧ 8 + (2 + 11) + 44 ≤ R.locals ∧ cells ≤ R.cells ∧ slots ≤ R.slots) (hW : WH (fg G) b μ H) (hS : va_S (fb b) s.heap H locs) (hsz : ls.size = nL) (hrest : (rest.map fun v => v.category).sum ≤ 8) (hdg : decode cc pc = .ok (.invokevirtual index, 3))
    (kk : ∀ (H1 : Heap) (locs1 : List Loc), WH (fg G) b out.2 H1 → va_S (fb b) s.heap H1 locs1 → W p l e R s m args below meth c H1 locs1 cells slots Q (F0 m (pc + 3) ls (.int out.1 :: rest))) : W p l e R s m args below meth c H locs cells slots Q (F0 m pc ls (.ref (b + 306) :: rest)) :=
  f_callV (As := []) (ci := 12) (c_X12_undo h) ⟨rfl, rfl⟩ rfl (ky_lm kyf_306 (by decide)) (wF_12 kyf_306) q_2143 q_2144 q_14 q_2145 rfl ⟨by decide +kernel, by decide +kernel, (show (parseMethodDescriptor yX12_undo.desc).map (fun d => d.parameters.length) = some 0 by decide +kernel)⟩ F hl hR hW hS hsz hrest rfl hdg kk
set_option maxHeartbeats 4000000 in
set_option maxRecDepth 100000 in
theorem wk_X12_undoCount {μ : Mm} {out : (Int32 × Mm)} (F : FX (fg G) b RX12 cX12_undoCount 1 p s m args meth c) (hr : meth.sig.returnType = some .int) (h : sh_X12_undoCount  μ = some out) (hW : WH (fg G) b μ H) (hS : va_S (fb b) s.heap H locs) (hl : lv_has ls 1 [(0, .ref (b + 306))]) : W p l e ({ frames := 0, cells := 0, slots := 0, locals := 0 } : Room) s m args below meth c H locs 0 0 (MQ below (QW (fg G) b out.2 (some (.int out.1))) args s 0 0 (fb b)) (F0 m 0 ls []) := by
  have hx := F.1
  have hb := F.2.1
  unfold sh_X12_undoCount at h
  refine lv_aload_n hx hb dX12_undoCount_0 rfl (lv_at hl 0 rfl) ?_
  refine lv_iconst (v := (0 : Int32)) hx hb dX12_undoCount_1 (by decide) ?_
  obtain ⟨μ1, hmμ1, h⟩ := ob h
  refine fl_put12_0 kyf_306 F hW hS q_1471 hmμ1 dX12_undoCount_2 (fun H locs hW hS => ?_)
  refine lv_aload_n hx hb dX12_undoCount_5 rfl (lv_at hl 0 rfl) ?_
  refine fl_get12 (v := .int (μ1.1 306 47)) kyf_306 F hW 47 (by decide) q_1518 rfl rfl dX12_undoCount_6 ?_
  cases h
  exact r_int F hr hW hS dX12_undoCount_9
set_option maxHeartbeats 4000000 in
set_option maxRecDepth 100000 in
theorem c_X12_undoCount {l : Launch} {G : Gt} {b : Nat} {μ : Mm} {out : (Int32 × Mm)} (h : sh_X12_undoCount  μ = some out) : Met l yX12_undoCount (wU (Cond.code yX12_undoCount cX12_undoCount 1 (some .int))) ({ frames := 0, cells := 0, slots := 0, locals := 0 } : Room) (PcW (fg G) b μ [.ref (b + 306)]) (QW (fg G) b out.2 (some (.int out.1))) 0 0 (fb b) :=
  met_of [.ref (b + 306)] (by decide) (Nat.le_of_ble_eq_true rfl) (fun F hr hW hl => wk_X12_undoCount F hr h hW va_S.rf hl)
set_option maxHeartbeats 4000000 in
set_option maxRecDepth 100000 in
theorem k_X12_undoCount {own : String} {nL : Nat} (F : FX (fg G) b own cc nL p s m args meth c) {μ : Mm} {out : (Int32 × Mm)} (h : sh_X12_undoCount  μ = some out) {index : Nat} (hl : Cond.methodLink own index yX12_undoCount ∈ TBG) (hR : 0 + 1 ≤ R.frames ∧ 8 + (1 + 11) + 0 ≤ R.locals ∧ cells ≤ R.cells ∧ slots ≤ R.slots) (hW : WH (fg G) b μ H) (hS : va_S (fb b) s.heap H locs) (hsz : ls.size = nL) (hrest : (rest.map fun v => v.category).sum ≤ 8) (hdg : decode cc pc = .ok (.invokevirtual index, 3))
    (kk : ∀ (H1 : Heap) (locs1 : List Loc), WH (fg G) b out.2 H1 → va_S (fb b) s.heap H1 locs1 → W p l e R s m args below meth c H1 locs1 cells slots Q (F0 m (pc + 3) ls (.int out.1 :: rest))) : W p l e R s m args below meth c H locs cells slots Q (F0 m pc ls (.ref (b + 306) :: rest)) :=
  f_callV (As := []) (ci := 12) (c_X12_undoCount h) ⟨rfl, rfl⟩ rfl (ky_lm kyf_306 (by decide)) (wF_12 kyf_306) q_2147 q_2148 q_14 q_2149 rfl ⟨by decide +kernel, by decide +kernel, (show (parseMethodDescriptor yX12_undoCount.desc).map (fun d => d.parameters.length) = some 0 by decide +kernel)⟩ F hl hR hW hS hsz hrest rfl hdg kk
set_option maxHeartbeats 4000000 in
set_option maxRecDepth 100000 in
theorem wk_X12_keepText_2 {n : Nat} {out : Mm} (F : FX (fg G) b RX12 cX12_keepText 2 p s m args meth c) (hr : meth.sig.returnType = none) : ∀ (f : Nat) (x1 : Int32) (μ : Mm) (H : Heap) (locs : List Loc) (ls : Array Slot), sh_X12_keepText_2 n f x1 μ = some out → WH (fg G) b μ H → va_S (fb b) s.heap H locs → lv_has ls 2 [(0, .ref (b + 306)), (1, .int x1)] → W p l e ({ frames := 0, cells := 0, slots := 0, locals := 0 } : Room) s m args below meth c H locs 0 0 (MQ below (QW (fg G) b out none) args s 0 0 (fb b)) (F0 m 2 ls []) := by
  have hx := F.1
  have hb := F.2.1
  intro f
  induction f with
  | zero =>
    intro _ _ _ _ _ h
    rw [sh_X12_keepText_2] at h
    cases h
  | succ f ih =>
    intro x1 μ H locs ls h hW hS hl
    rw [sh_X12_keepText_2] at h
    have hk2 := ih
    refine lv_iload_n hx hb dX12_keepText_2 rfl (lv_at hl 1 rfl) ?_
    refine lv_aload_n hx hb dX12_keepText_3 rfl (lv_at hl 0 rfl) ?_
    refine fl_get12 (v := .int (μ.1 306 17)) kyf_306 F hW 17 (by decide) q_1488 rfl rfl dX12_keepText_4 ?_
    refine lv_icmp_ge (tgt := 28) hx hb dX12_keepText_7 (by decide) (fun cc => ?_) (fun cc => ?_)
    · replace h := (if_pos cc).symm.trans h
      refine lv_aload_n hx hb dX12_keepText_28 rfl (lv_at hl 0 rfl) ?_
      refine lv_aload_n hx hb dX12_keepText_29 rfl (lv_at hl 0 rfl) ?_
      refine fl_get12 (v := .int (μ.1 306 17)) kyf_306 F hW 17 (by decide) q_1488 rfl rfl dX12_keepText_30 ?_
      obtain ⟨μ1, hmμ1, h⟩ := ob h
      refine fl_put12_49 kyf_306 F hW hS q_1520 hmμ1 dX12_keepText_33 (fun H locs hW hS => ?_)
      cases h
      exact r_void F hr hW hS dX12_keepText_36
    · replace h := (if_neg cc).symm.trans h
      refine lv_aload_n hx hb dX12_keepText_10 rfl (lv_at hl 0 rfl) ?_
      refine fl_get12 (v := .ref (b + 330)) kyf_306 F hW 48 (by decide) q_1519 rfl rfl dX12_keepText_11 ?_
      refine lv_iload_n hx hb dX12_keepText_14 rfl (lv_at hl 1 rfl) ?_
      refine lv_aload_n hx hb dX12_keepText_15 rfl (lv_at hl 0 rfl) ?_
      refine fl_get12 (v := .ref (b + 310)) kyf_306 F hW 16 (by decide) q_1487 rfl rfl dX12_keepText_16 ?_
      refine lv_iload_n hx hb dX12_keepText_19 rfl (lv_at hl 1 rfl) ?_
      obtain ⟨v2, qv2, h⟩ := ob h
      refine fm_bald kyf_310 F hW qv2 dX12_keepText_20 ?_
      obtain ⟨μ3, qμ3, h⟩ := ob h
      refine fm_bast kyf_330 F hW hS qμ3 dX12_keepText_21 (fun H locs hW hS => ?_)
      refine lv_iinc (v := (x1 + (1 : Int32))) (lv' := [(1, .int (x1 + (1 : Int32))), (0, .ref (b + 306))]) hx hb dX12_keepText_22 hl (k := 1) rfl rfl (by decide) rfl (fun ls hl => ?_)
      refine lv_goto (tgt := 2) hx hb dX12_keepText_25 (by decide) ?_
      exact hk2 _ _ _ _ _ h hW hS (lv_sub hl [1, 0] rfl)
set_option maxHeartbeats 4000000 in
set_option maxRecDepth 100000 in
theorem wk_X12_keepText {n : Nat} {μ : Mm} {out : Mm} (F : FX (fg G) b RX12 cX12_keepText 2 p s m args meth c) (hr : meth.sig.returnType = none) (h : sh_X12_keepText n  μ = some out) (hW : WH (fg G) b μ H) (hS : va_S (fb b) s.heap H locs) (hl : lv_has ls 2 [(0, .ref (b + 306))]) : W p l e ({ frames := 0, cells := 0, slots := 0, locals := 0 } : Room) s m args below meth c H locs 0 0 (MQ below (QW (fg G) b out none) args s 0 0 (fb b)) (F0 m 0 ls []) := by
  have hx := F.1
  have hb := F.2.1
  unfold sh_X12_keepText at h
  refine lv_iconst (v := (0 : Int32)) hx hb dX12_keepText_0 (by decide) ?_
  refine lv_istore_n (lv' := [(1, .int (0 : Int32)), (0, .ref (b + 306))]) hx hb dX12_keepText_1 rfl hl (by decide) rfl (fun ls hl => ?_)
  exact wk_X12_keepText_2 F hr n _ _ _ _ _ h hW hS (lv_sub hl [1, 0] rfl)
set_option maxHeartbeats 4000000 in
set_option maxRecDepth 100000 in
theorem c_X12_keepText {l : Launch} {G : Gt} {b : Nat} {n : Nat} {μ : Mm} {out : Mm} (h : sh_X12_keepText n  μ = some out) : Met l yX12_keepText (wU (Cond.code yX12_keepText cX12_keepText 2 none)) ({ frames := 0, cells := 0, slots := 0, locals := 0 } : Room) (PcW (fg G) b μ [.ref (b + 306)]) (QW (fg G) b out none) 0 0 (fb b) :=
  met_of [.ref (b + 306)] (by decide) (Nat.le_of_ble_eq_true rfl) (fun F hr hW hl => wk_X12_keepText F hr h hW va_S.rf hl)
set_option maxHeartbeats 4000000 in
set_option maxRecDepth 100000 in
theorem k_X12_keepText {own : String} {nL : Nat} (F : FX (fg G) b own cc nL p s m args meth c) {n : Nat} {μ : Mm} {out : Mm} (h : sh_X12_keepText n  μ = some out) {index : Nat} (hl : Cond.methodLink own index yX12_keepText ∈ TBG) (hR : 0 + 1 ≤ R.frames ∧ 8 + (2 + 11) + 0 ≤ R.locals ∧ cells ≤ R.cells ∧ slots ≤ R.slots) (hW : WH (fg G) b μ H) (hS : va_S (fb b) s.heap H locs) (hsz : ls.size = nL) (hrest : (rest.map fun v => v.category).sum ≤ 8) (hdg : decode cc pc = .ok (.invokevirtual index, 3))
    (kk : ∀ (H1 : Heap) (locs1 : List Loc), WH (fg G) b out H1 → va_S (fb b) s.heap H1 locs1 → W p l e R s m args below meth c H1 locs1 cells slots Q (F0 m (pc + 3) ls (rest))) : W p l e R s m args below meth c H locs cells slots Q (F0 m pc ls (.ref (b + 306) :: rest)) :=
  f_callV (As := []) (ci := 12) (c_X12_keepText h) ⟨rfl, rfl⟩ rfl (ky_lm kyf_306 (by decide)) (wF_12 kyf_306) q_2156 qp_116 q_14 q_2157 rfl ⟨by decide +kernel, by decide +kernel, (show (parseMethodDescriptor yX12_keepText.desc).map (fun d => d.parameters.length) = some 0 by decide +kernel)⟩ F hl hR hW hS hsz hrest rfl hdg kk
set_option maxHeartbeats 4000000 in
set_option maxRecDepth 100000 in
theorem wk_X12_writeLine {n : Nat} {a1 : Int32} {μ : Mm} {out : (Int32 × Mm)} (F : FX (fg G) b RX12 cX12_writeLine 2 p s m args meth c) (hr : meth.sig.returnType = some .int) (h : sh_X12_writeLine n a1 μ = some out) (hW : WH (fg G) b μ H) (hS : va_S (fb b) s.heap H locs) (hl : lv_has ls 2 [(0, .ref (b + 306)), (1, .int a1)]) : W p l e ({ frames := 10, cells := 0, slots := 0, locals := 226 } : Room) s m args below meth c H locs 0 0 (MQ below (QW (fg G) b out.2 (some (.int out.1))) args s 0 0 (fb b)) (F0 m 0 ls []) := by
  have hx := F.1
  have hb := F.2.1
  unfold sh_X12_writeLine at h
  refine lv_aload_n hx hb dX12_writeLine_0 rfl (lv_at hl 0 rfl) ?_
  refine lv_aload_n hx hb dX12_writeLine_1 rfl (lv_at hl 0 rfl) ?_
  refine lv_iload_n hx hb dX12_writeLine_2 rfl (lv_at hl 1 rfl) ?_
  obtain ⟨r1, qr1, h⟩ := ob h
  refine k_X12_isLine F qr1 q_1937 ⟨Nat.le_of_ble_eq_true rfl, Nat.le_of_ble_eq_true rfl, Nat.le_of_ble_eq_true rfl, Nat.le_of_ble_eq_true rfl⟩ hW hS hl.1 (Nat.le_of_ble_eq_true rfl) dX12_writeLine_3 (fun H locs hW hS => ?_)
  obtain ⟨r2, qr2, h⟩ := ob h
  refine k_X12_passes F qr2 q_1627 ⟨Nat.le_of_ble_eq_true rfl, Nat.le_of_ble_eq_true rfl, Nat.le_of_ble_eq_true rfl, Nat.le_of_ble_eq_true rfl⟩ hW hS hl.1 (Nat.le_of_ble_eq_true rfl) dX12_writeLine_6 (fun H locs hW hS => ?_)
  refine lv_if_ne (tgt := 14) hx hb dX12_writeLine_9 (by decide) (fun cc => ?_) (fun cc => ?_)
  · replace h := (if_neg cc).symm.trans h
    refine lv_aload_n hx hb dX12_writeLine_14 rfl (lv_at hl 0 rfl) ?_
    refine lv_iconst (v := (0 : Int32)) hx hb dX12_writeLine_15 (by decide) ?_
    obtain ⟨μ3, hmμ3, h⟩ := ob h
    refine fl_put12_17 kyf_306 F hW hS q_1488 hmμ3 dX12_writeLine_16 (fun H locs hW hS => ?_)
    refine lv_aload_n hx hb dX12_writeLine_19 rfl (lv_at hl 0 rfl) ?_
    refine lv_iload_n hx hb dX12_writeLine_20 rfl (lv_at hl 1 rfl) ?_
    obtain ⟨r4, qr4, h⟩ := ob h
    refine k_X12_putLine F qr4 q_2098 ⟨Nat.le_of_ble_eq_true rfl, Nat.le_of_ble_eq_true rfl, Nat.le_of_ble_eq_true rfl, Nat.le_of_ble_eq_true rfl⟩ hW hS hl.1 (Nat.le_of_ble_eq_true rfl) dX12_writeLine_21 (fun H locs hW hS => ?_)
    refine lv_aload_n hx hb dX12_writeLine_24 rfl (lv_at hl 0 rfl) ?_
    obtain ⟨r5, qr5, h⟩ := ob h
    refine k_X12_keepText F qr5 q_2154 ⟨Nat.le_of_ble_eq_true rfl, Nat.le_of_ble_eq_true rfl, Nat.le_of_ble_eq_true rfl, Nat.le_of_ble_eq_true rfl⟩ hW hS hl.1 (Nat.le_of_ble_eq_true rfl) dX12_writeLine_25 (fun H locs hW hS => ?_)
    refine lv_aload_n hx hb dX12_writeLine_28 rfl (lv_at hl 0 rfl) ?_
    refine fl_get12 (v := .int (r5.1 306 49)) kyf_306 F hW 49 (by decide) q_1520 rfl rfl dX12_writeLine_29 ?_
    cases h
    exact r_int F hr hW hS dX12_writeLine_32
  · replace h := (if_pos cc).symm.trans h
    refine lv_iconst (v := (0 : Int32)) hx hb dX12_writeLine_12 (by decide) ?_
    cases h
    exact r_int F hr hW hS dX12_writeLine_13
set_option maxHeartbeats 4000000 in
set_option maxRecDepth 100000 in
theorem c_X12_writeLine {l : Launch} {G : Gt} {b : Nat} {n : Nat} {a1 : Int32} {μ : Mm} {out : (Int32 × Mm)} (h : sh_X12_writeLine n a1 μ = some out) : Met l yX12_writeLine (wU (Cond.code yX12_writeLine cX12_writeLine 2 (some .int))) ({ frames := 10, cells := 0, slots := 0, locals := 226 } : Room) (PcW (fg G) b μ [.ref (b + 306), .int a1]) (QW (fg G) b out.2 (some (.int out.1))) 0 0 (fb b) :=
  met_of [.ref (b + 306), .int a1] (by decide) (Nat.le_of_ble_eq_true rfl) (fun F hr hW hl => wk_X12_writeLine F hr h hW va_S.rf hl)
set_option maxHeartbeats 4000000 in
set_option maxRecDepth 100000 in
theorem k_X12_writeLine {own : String} {nL : Nat} (F : FX (fg G) b own cc nL p s m args meth c) {n : Nat} {a1 : Int32} {μ : Mm} {out : (Int32 × Mm)} (h : sh_X12_writeLine n a1 μ = some out) {index : Nat} (hl : Cond.methodLink own index yX12_writeLine ∈ TBG) (hR : 10 + 1 ≤ R.frames ∧ 8 + (2 + 11) + 226 ≤ R.locals ∧ cells ≤ R.cells ∧ slots ≤ R.slots) (hW : WH (fg G) b μ H) (hS : va_S (fb b) s.heap H locs) (hsz : ls.size = nL) (hrest : (rest.map fun v => v.category).sum ≤ 8) (hdg : decode cc pc = .ok (.invokevirtual index, 3))
    (kk : ∀ (H1 : Heap) (locs1 : List Loc), WH (fg G) b out.2 H1 → va_S (fb b) s.heap H1 locs1 → W p l e R s m args below meth c H1 locs1 cells slots Q (F0 m (pc + 3) ls (.int out.1 :: rest))) : W p l e R s m args below meth c H locs cells slots Q (F0 m pc ls (.int a1 :: .ref (b + 306) :: rest)) :=
  f_callV (As := [.int a1]) (ci := 12) (c_X12_writeLine h) ⟨rfl, rfl⟩ rfl (ky_lm kyf_306 (by decide)) (wF_12 kyf_306) q_2151 q_2152 q_14 q_2153 rfl ⟨by decide +kernel, by decide +kernel, (show (parseMethodDescriptor yX12_writeLine.desc).map (fun d => d.parameters.length) = some 1 by decide +kernel)⟩ F hl hR hW hS hsz hrest rfl hdg kk
set_option maxHeartbeats 4000000 in
set_option maxRecDepth 100000 in
theorem wk_X12_writeTable_16 {n : Nat} {out : (Int32 × Mm)} (F : FX (fg G) b RX12 cX12_writeTable 2 p s m args meth c) (hr : meth.sig.returnType = some .int) : ∀ (f : Nat) (x1 : Int32) (μ : Mm) (H : Heap) (locs : List Loc) (ls : Array Slot), sh_X12_writeTable_16 n f x1 μ = some out → WH (fg G) b μ H → va_S (fb b) s.heap H locs → lv_has ls 2 [(0, .ref (b + 306)), (1, .int x1)] → W p l e ({ frames := 9, cells := 0, slots := 0, locals := 205 } : Room) s m args below meth c H locs 0 0 (MQ below (QW (fg G) b out.2 (some (.int out.1))) args s 0 0 (fb b)) (F0 m 16 ls []) := by
  have hx := F.1
  have hb := F.2.1
  intro f
  induction f with
  | zero =>
    intro _ _ _ _ _ h
    rw [sh_X12_writeTable_16] at h
    cases h
  | succ f ih =>
    intro x1 μ H locs ls h hW hS hl
    rw [sh_X12_writeTable_16] at h
    have hk16 := ih
    refine lv_iload_n hx hb dX12_writeTable_16 rfl (lv_at hl 1 rfl) ?_
    refine lv_aload_n hx hb dX12_writeTable_17 rfl (lv_at hl 0 rfl) ?_
    refine fl_get12 (v := .int (μ.1 306 36)) kyf_306 F hW 36 (by decide) q_1507 rfl rfl dX12_writeTable_18 ?_
    refine lv_icmp_ge (tgt := 35) hx hb dX12_writeTable_21 (by decide) (fun cc => ?_) (fun cc => ?_)
    · replace h := (if_pos cc).symm.trans h
      refine lv_aload_n hx hb dX12_writeTable_35 rfl (lv_at hl 0 rfl) ?_
      obtain ⟨r4, qr4, h⟩ := ob h
      refine k_X12_keepText F qr4 q_2154 ⟨Nat.le_of_ble_eq_true rfl, Nat.le_of_ble_eq_true rfl, Nat.le_of_ble_eq_true rfl, Nat.le_of_ble_eq_true rfl⟩ hW hS hl.1 (Nat.le_of_ble_eq_true rfl) dX12_writeTable_36 (fun H locs hW hS => ?_)
      refine lv_aload_n hx hb dX12_writeTable_39 rfl (lv_at hl 0 rfl) ?_
      refine fl_get12 (v := .int (r4.1 306 49)) kyf_306 F hW 49 (by decide) q_1520 rfl rfl dX12_writeTable_40 ?_
      cases h
      exact r_int F hr hW hS dX12_writeTable_43
    · replace h := (if_neg cc).symm.trans h
      refine lv_aload_n hx hb dX12_writeTable_24 rfl (lv_at hl 0 rfl) ?_
      refine lv_iload_n hx hb dX12_writeTable_25 rfl (lv_at hl 1 rfl) ?_
      obtain ⟨r5, qr5, h⟩ := ob h
      refine k_X12_putLine F qr5 q_2098 ⟨Nat.le_of_ble_eq_true rfl, Nat.le_of_ble_eq_true rfl, Nat.le_of_ble_eq_true rfl, Nat.le_of_ble_eq_true rfl⟩ hW hS hl.1 (Nat.le_of_ble_eq_true rfl) dX12_writeTable_26 (fun H locs hW hS => ?_)
      refine lv_iinc (v := (x1 + (1 : Int32))) (lv' := [(1, .int (x1 + (1 : Int32))), (0, .ref (b + 306))]) hx hb dX12_writeTable_29 hl (k := 1) rfl rfl (by decide) rfl (fun ls hl => ?_)
      refine lv_goto (tgt := 16) hx hb dX12_writeTable_32 (by decide) ?_
      exact hk16 _ _ _ _ _ h hW hS (lv_sub hl [1, 0] rfl)
set_option maxHeartbeats 4000000 in
set_option maxRecDepth 100000 in
theorem wk_X12_writeTable {n : Nat} {μ : Mm} {out : (Int32 × Mm)} (F : FX (fg G) b RX12 cX12_writeTable 2 p s m args meth c) (hr : meth.sig.returnType = some .int) (h : sh_X12_writeTable n  μ = some out) (hW : WH (fg G) b μ H) (hS : va_S (fb b) s.heap H locs) (hl : lv_has ls 2 [(0, .ref (b + 306))]) : W p l e ({ frames := 9, cells := 0, slots := 0, locals := 205 } : Room) s m args below meth c H locs 0 0 (MQ below (QW (fg G) b out.2 (some (.int out.1))) args s 0 0 (fb b)) (F0 m 0 ls []) := by
  have hx := F.1
  have hb := F.2.1
  unfold sh_X12_writeTable at h
  refine lv_aload_n hx hb dX12_writeTable_0 rfl (lv_at hl 0 rfl) ?_
  refine lv_iconst (v := (0 : Int32)) hx hb dX12_writeTable_1 (by decide) ?_
  obtain ⟨μ1, hmμ1, h⟩ := ob h
  refine fl_put12_0 kyf_306 F hW hS q_1471 hmμ1 dX12_writeTable_2 (fun H locs hW hS => ?_)
  refine lv_aload_n hx hb dX12_writeTable_5 rfl (lv_at hl 0 rfl) ?_
  obtain ⟨r2, qr2, h⟩ := ob h
  refine k_X12_lay F qr2 q_1764 ⟨Nat.le_of_ble_eq_true rfl, Nat.le_of_ble_eq_true rfl, Nat.le_of_ble_eq_true rfl, Nat.le_of_ble_eq_true rfl⟩ hW hS hl.1 (Nat.le_of_ble_eq_true rfl) dX12_writeTable_6 (fun H locs hW hS => ?_)
  refine lv_aload_n hx hb dX12_writeTable_9 rfl (lv_at hl 0 rfl) ?_
  refine lv_iconst (v := (0 : Int32)) hx hb dX12_writeTable_10 (by decide) ?_
  obtain ⟨μ3, hmμ3, h⟩ := ob h
  refine fl_put12_17 kyf_306 F hW hS q_1488 hmμ3 dX12_writeTable_11 (fun H locs hW hS => ?_)
  refine lv_iconst (v := (0 : Int32)) hx hb dX12_writeTable_14 (by decide) ?_
  refine lv_istore_n (lv' := [(1, .int (0 : Int32)), (0, .ref (b + 306))]) hx hb dX12_writeTable_15 rfl hl (by decide) rfl (fun ls hl => ?_)
  exact wk_X12_writeTable_16 F hr n _ _ _ _ _ h hW hS (lv_sub hl [1, 0] rfl)
set_option maxHeartbeats 4000000 in
set_option maxRecDepth 100000 in
theorem c_X12_writeTable {l : Launch} {G : Gt} {b : Nat} {n : Nat} {μ : Mm} {out : (Int32 × Mm)} (h : sh_X12_writeTable n  μ = some out) : Met l yX12_writeTable (wU (Cond.code yX12_writeTable cX12_writeTable 2 (some .int))) ({ frames := 9, cells := 0, slots := 0, locals := 205 } : Room) (PcW (fg G) b μ [.ref (b + 306)]) (QW (fg G) b out.2 (some (.int out.1))) 0 0 (fb b) :=
  met_of [.ref (b + 306)] (by decide) (Nat.le_of_ble_eq_true rfl) (fun F hr hW hl => wk_X12_writeTable F hr h hW va_S.rf hl)
set_option maxHeartbeats 4000000 in
set_option maxRecDepth 100000 in
theorem k_X12_writeTable {own : String} {nL : Nat} (F : FX (fg G) b own cc nL p s m args meth c) {n : Nat} {μ : Mm} {out : (Int32 × Mm)} (h : sh_X12_writeTable n  μ = some out) {index : Nat} (hl : Cond.methodLink own index yX12_writeTable ∈ TBG) (hR : 9 + 1 ≤ R.frames ∧ 8 + (2 + 11) + 205 ≤ R.locals ∧ cells ≤ R.cells ∧ slots ≤ R.slots) (hW : WH (fg G) b μ H) (hS : va_S (fb b) s.heap H locs) (hsz : ls.size = nL) (hrest : (rest.map fun v => v.category).sum ≤ 8) (hdg : decode cc pc = .ok (.invokevirtual index, 3))
    (kk : ∀ (H1 : Heap) (locs1 : List Loc), WH (fg G) b out.2 H1 → va_S (fb b) s.heap H1 locs1 → W p l e R s m args below meth c H1 locs1 cells slots Q (F0 m (pc + 3) ls (.int out.1 :: rest))) : W p l e R s m args below meth c H locs cells slots Q (F0 m pc ls (.ref (b + 306) :: rest)) :=
  f_callV (As := []) (ci := 12) (c_X12_writeTable h) ⟨rfl, rfl⟩ rfl (ky_lm kyf_306 (by decide)) (wF_12 kyf_306) q_2159 q_2160 q_14 q_2161 rfl ⟨by decide +kernel, by decide +kernel, (show (parseMethodDescriptor yX12_writeTable.desc).map (fun d => d.parameters.length) = some 0 by decide +kernel)⟩ F hl hR hW hS hsz hrest rfl hdg kk
set_option maxHeartbeats 4000000 in
set_option maxRecDepth 100000 in
theorem wk_X12_outputByte {a1 : Int32} {μ : Mm} {out : (Int32 × Mm)} (F : FX (fg G) b RX12 cX12_outputByte 2 p s m args meth c) (hr : meth.sig.returnType = some .int) (h : sh_X12_outputByte a1 μ = some out) (hW : WH (fg G) b μ H) (hS : va_S (fb b) s.heap H locs) (hl : lv_has ls 2 [(0, .ref (b + 306)), (1, .int a1)]) : W p l e ({ frames := 2, cells := 0, slots := 0, locals := 44 } : Room) s m args below meth c H locs 0 0 (MQ below (QW (fg G) b out.2 (some (.int out.1))) args s 0 0 (fb b)) (F0 m 0 ls []) := by
  have hx := F.1
  have hb := F.2.1
  unfold sh_X12_outputByte at h
  refine lv_aload_n hx hb dX12_outputByte_0 rfl (lv_at hl 0 rfl) ?_
  refine lv_iload_n hx hb dX12_outputByte_1 rfl (lv_at hl 1 rfl) ?_
  refine lv_i2l hx hb dX12_outputByte_2 rfl ?_
  refine lv_lconst (v := (0 : Int64)) hx hb dX12_outputByte_3 (by decide) ?_
  refine lv_aload_n hx hb dX12_outputByte_4 rfl (lv_at hl 0 rfl) ?_
  refine fl_get12 (v := .int (μ.1 306 49)) kyf_306 F hW 49 (by decide) q_1520 rfl rfl dX12_outputByte_5 ?_
  refine lv_iconst (v := (1 : Int32)) hx hb dX12_outputByte_8 (by decide) ?_
  refine lv_isub hx hb dX12_outputByte_9 ?_
  refine lv_i2l hx hb dX12_outputByte_10 rfl ?_
  obtain ⟨r1, qr1, h⟩ := ob h
  refine k_X12_in F qr1 q_1643 ⟨Nat.le_of_ble_eq_true rfl, Nat.le_of_ble_eq_true rfl, Nat.le_of_ble_eq_true rfl, Nat.le_of_ble_eq_true rfl⟩ hW hS hl.1 (Nat.le_of_ble_eq_true rfl) dX12_outputByte_11 (fun H locs hW hS => ?_)
  obtain ⟨r2, qr2, h⟩ := ob h
  refine k_X12_passes F qr2 q_1627 ⟨Nat.le_of_ble_eq_true rfl, Nat.le_of_ble_eq_true rfl, Nat.le_of_ble_eq_true rfl, Nat.le_of_ble_eq_true rfl⟩ hW hS hl.1 (Nat.le_of_ble_eq_true rfl) dX12_outputByte_14 (fun H locs hW hS => ?_)
  refine lv_if_eq (tgt := 29) hx hb dX12_outputByte_17 (by decide) (fun cc => ?_) (fun cc => ?_)
  · replace h := (if_pos cc).symm.trans h
    refine lv_iconst (v := (0 : Int32)) hx hb dX12_outputByte_29 (by decide) ?_
    cases h
    exact r_int F hr hW hS dX12_outputByte_30
  · replace h := (if_neg cc).symm.trans h
    refine lv_aload_n hx hb dX12_outputByte_20 rfl (lv_at hl 0 rfl) ?_
    refine fl_get12 (v := .ref (b + 330)) kyf_306 F hW 48 (by decide) q_1519 rfl rfl dX12_outputByte_21 ?_
    refine lv_iload_n hx hb dX12_outputByte_24 rfl (lv_at hl 1 rfl) ?_
    obtain ⟨v3, qv3, h⟩ := ob h
    refine fm_bald kyf_330 F hW qv3 dX12_outputByte_25 ?_
    refine lv_goto (tgt := 30) hx hb dX12_outputByte_26 (by decide) ?_
    cases h
    exact r_int F hr hW hS dX12_outputByte_30
set_option maxHeartbeats 4000000 in
set_option maxRecDepth 100000 in
theorem c_X12_outputByte {l : Launch} {G : Gt} {b : Nat} {a1 : Int32} {μ : Mm} {out : (Int32 × Mm)} (h : sh_X12_outputByte a1 μ = some out) : Met l yX12_outputByte (wU (Cond.code yX12_outputByte cX12_outputByte 2 (some .int))) ({ frames := 2, cells := 0, slots := 0, locals := 44 } : Room) (PcW (fg G) b μ [.ref (b + 306), .int a1]) (QW (fg G) b out.2 (some (.int out.1))) 0 0 (fb b) :=
  met_of [.ref (b + 306), .int a1] (by decide) (Nat.le_of_ble_eq_true rfl) (fun F hr hW hl => wk_X12_outputByte F hr h hW va_S.rf hl)
set_option maxHeartbeats 4000000 in
set_option maxRecDepth 100000 in
theorem k_X12_outputByte {own : String} {nL : Nat} (F : FX (fg G) b own cc nL p s m args meth c) {a1 : Int32} {μ : Mm} {out : (Int32 × Mm)} (h : sh_X12_outputByte a1 μ = some out) {index : Nat} (hl : Cond.methodLink own index yX12_outputByte ∈ TBG) (hR : 2 + 1 ≤ R.frames ∧ 8 + (2 + 11) + 44 ≤ R.locals ∧ cells ≤ R.cells ∧ slots ≤ R.slots) (hW : WH (fg G) b μ H) (hS : va_S (fb b) s.heap H locs) (hsz : ls.size = nL) (hrest : (rest.map fun v => v.category).sum ≤ 8) (hdg : decode cc pc = .ok (.invokevirtual index, 3))
    (kk : ∀ (H1 : Heap) (locs1 : List Loc), WH (fg G) b out.2 H1 → va_S (fb b) s.heap H1 locs1 → W p l e R s m args below meth c H1 locs1 cells slots Q (F0 m (pc + 3) ls (.int out.1 :: rest))) : W p l e R s m args below meth c H locs cells slots Q (F0 m pc ls (.int a1 :: .ref (b + 306) :: rest)) :=
  f_callV (As := [.int a1]) (ci := 12) (c_X12_outputByte h) ⟨rfl, rfl⟩ rfl (ky_lm kyf_306 (by decide)) (wF_12 kyf_306) q_2163 q_2164 q_14 q_2165 rfl ⟨by decide +kernel, by decide +kernel, (show (parseMethodDescriptor yX12_outputByte.desc).map (fun d => d.parameters.length) = some 1 by decide +kernel)⟩ F hl hR hW hS hsz hrest rfl hdg kk
end G153
