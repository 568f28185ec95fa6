section G13
variable {p : Program} {l : Launch} {e : Env} {R : Room} {s : State} {m : MethodId} {args : Array Value} {below : List Frame} {meth : Method} {c : Code} {H : Heap} {locs : List Loc} {cells slots : Nat} {Q : State → Prop}
variable {cc : ByteArray} {pc : Nat} {ls : Array Slot} {rest : List Value} {G : Gt} {b : Nat}

set_option maxHeartbeats 4000000 in
set_option maxRecDepth 100000 in
theorem wk_X2_findPlace_67 {n : Nat} {t : Nat} {a1 : Nat} {a2 : Int32} {out : Mm} (F : FX G b RX2 cX2_findPlace 7 p s m args meth c) (hr : meth.sig.returnType = none) (ht : okMz t) (ha1 : okBk a1) : ∀ (f : Nat) (x4 : Int32) (x5 : Int32) (x6 : Int32) (μ : Mm) (H : Heap) (locs : List Loc) (ls : Array Slot), sh_X2_findPlace_67 n t a1 a2 f x4 x5 x6 μ = some out → WH G b μ H → va_S (fb b) s.heap H locs → lv_has ls 7 [(0, .ref (b + t)), (2, .int a2), (4, .int x4), (5, .int x5), (6, .int x6)] → W p l e ({ frames := 1, cells := 0, slots := 0, locals := 22 } : Room) s m args below meth c H locs 0 0 (MQ below (QW G b out none) args s 0 0 (fb b)) (F0 m 67 ls []) := by
  have hx := F.1
  have hb := F.2.1
  intro f
  induction f with
  | zero =>
    intro _ _ _ _ _ _ _ h
    rw [sh_X2_findPlace_67] at h
    cases h
  | succ f ih =>
    intro x4 x5 x6 μ H locs ls h hW hS hl
    rw [sh_X2_findPlace_67] at h
    have hk67 := ih
    refine lv_iload hx hb dX2_findPlace_67 (lv_at hl 4 rfl) ?_
    refine lv_iload_n hx hb dX2_findPlace_69 rfl (lv_at hl 1 rfl) ?_
    refine lv_icmp_ge (tgt := 96) hx hb dX2_findPlace_70 (by decide) (fun cc => ?_) (fun cc => ?_)
    · replace h := (if_pos cc).symm.trans h
      refine lv_aload_n hx hb dX2_findPlace_96 rfl (lv_at hl 0 rfl) ?_
      refine fl_get2 (v := .ref (b + (t + 1))) (ht).1 F hW 0 (by decide) q_239 rfl rfl dX2_findPlace_97 ?_
      refine lv_iload_n hx hb dX2_findPlace_100 rfl (lv_at hl 1 rfl) ?_
      refine lv_iload hx hb dX2_findPlace_101 (lv_at hl 2 rfl) ?_
      obtain ⟨r4, qr4, h⟩ := ob h
      refine k_X5_put F (ht).2.1 qr4 q_429 ⟨Nat.le_of_ble_eq_true rfl, Nat.le_of_ble_eq_true rfl, Nat.le_of_ble_eq_true rfl, Nat.le_of_ble_eq_true rfl⟩ hW hS hl.1 (Nat.le_of_ble_eq_true rfl) dX2_findPlace_103 (fun H locs hW hS => ?_)
      refine lv_aload_n hx hb dX2_findPlace_106 rfl (lv_at hl 0 rfl) ?_
      refine fl_get2 (v := .ref (b + (t + 3))) (ht).1 F hW 1 (by decide) q_241 rfl rfl dX2_findPlace_107 ?_
      refine lv_iload_n hx hb dX2_findPlace_110 rfl (lv_at hl 1 rfl) ?_
      refine lv_iconst (v := (0 : Int32)) hx hb dX2_findPlace_111 (by decide) ?_
      obtain ⟨r5, qr5, h⟩ := ob h
      refine k_X5_put F (ht).2.2.1 qr5 q_429 ⟨Nat.le_of_ble_eq_true rfl, Nat.le_of_ble_eq_true rfl, Nat.le_of_ble_eq_true rfl, Nat.le_of_ble_eq_true rfl⟩ hW hS hl.1 (Nat.le_of_ble_eq_true rfl) dX2_findPlace_112 (fun H locs hW hS => ?_)
      refine lv_aload_n hx hb dX2_findPlace_115 rfl (lv_at hl 0 rfl) ?_
      refine fl_get2 (v := .ref (b + (t + 3))) (ht).1 F hW 1 (by decide) q_241 rfl rfl dX2_findPlace_116 ?_
      refine lv_iload hx hb dX2_findPlace_119 (lv_at hl 2 rfl) ?_
      refine lv_iconst (v := (1 : Int32)) hx hb dX2_findPlace_121 (by decide) ?_
      obtain ⟨r6, qr6, h⟩ := ob h
      refine k_X5_add F (ht).2.2.1 qr6 q_430 ⟨Nat.le_of_ble_eq_true rfl, Nat.le_of_ble_eq_true rfl, Nat.le_of_ble_eq_true rfl, Nat.le_of_ble_eq_true rfl⟩ hW hS hl.1 (Nat.le_of_ble_eq_true rfl) dX2_findPlace_122 (fun H locs hW hS => ?_)
      refine lv_aload_n hx hb dX2_findPlace_125 rfl (lv_at hl 0 rfl) ?_
      refine fl_get2 (v := .ref (b + (t + 5))) (ht).1 F hW 2 (by decide) q_243 rfl rfl dX2_findPlace_126 ?_
      refine lv_iload_n hx hb dX2_findPlace_129 rfl (lv_at hl 1 rfl) ?_
      refine lv_iload hx hb dX2_findPlace_130 (lv_at hl 3 rfl) ?_
      obtain ⟨r7, qr7, h⟩ := ob h
      refine k_X5_put F (ht).2.2.2.1 qr7 q_429 ⟨Nat.le_of_ble_eq_true rfl, Nat.le_of_ble_eq_true rfl, Nat.le_of_ble_eq_true rfl, Nat.le_of_ble_eq_true rfl⟩ hW hS hl.1 (Nat.le_of_ble_eq_true rfl) dX2_findPlace_132 (fun H locs hW hS => ?_)
      cases h
      exact r_void F hr hW hS dX2_findPlace_135
    · replace h := (if_neg cc).symm.trans h
      refine lv_aload_n hx hb dX2_findPlace_73 rfl (lv_at hl 0 rfl) ?_
      refine fl_get2 (v := .ref (b + (t + 1))) (ht).1 F hW 0 (by decide) q_239 rfl rfl dX2_findPlace_74 ?_
      refine lv_iload hx hb dX2_findPlace_77 (lv_at hl 4 rfl) ?_
      obtain ⟨r8, qr8, h⟩ := ob h
      refine k_X5_at F (ht).2.1 qr8 q_425 ⟨Nat.le_of_ble_eq_true rfl, Nat.le_of_ble_eq_true rfl, Nat.le_of_ble_eq_true rfl, Nat.le_of_ble_eq_true rfl⟩ hW hS hl.1 (Nat.le_of_ble_eq_true rfl) dX2_findPlace_79 (fun H locs hW hS => ?_)
      refine lv_iload hx hb dX2_findPlace_82 (lv_at hl 2 rfl) ?_
      refine lv_icmp_ne (tgt := 90) hx hb dX2_findPlace_84 (by decide) (fun cc => ?_) (fun cc => ?_)
      · replace h := (if_neg cc).symm.trans h
        refine lv_iinc (v := (x6 + (1 : Int32))) (lv' := [(6, .int (x6 + (1 : Int32))), (0, .ref (b + t)), (2, .int a2), (4, .int x4), (5, .int x5)]) hx hb dX2_findPlace_90 hl (k := 4) rfl rfl (by decide) rfl (fun ls hl => ?_)
        refine lv_goto (tgt := 67) hx hb dX2_findPlace_93 (by decide) ?_
        exact hk67 _ _ _ _ _ _ _ h hW hS (lv_sub hl [1, 2, 3, 4, 0] rfl)
      · replace h := (if_pos cc).symm.trans h
        refine lv_iinc (v := (x5 + (1 : Int32))) (lv' := [(5, .int (x5 + (1 : Int32))), (0, .ref (b + t)), (2, .int a2), (4, .int x4), (6, .int x6)]) hx hb dX2_findPlace_87 hl (k := 3) rfl rfl (by decide) rfl (fun ls hl => ?_)
        refine lv_iinc (v := (x6 + (1 : Int32))) (lv' := [(6, .int (x6 + (1 : Int32))), (5, .int (x5 + (1 : Int32))), (0, .ref (b + t)), (2, .int a2), (4, .int x4)]) hx hb dX2_findPlace_90 hl (k := 4) rfl rfl (by decide) rfl (fun ls hl => ?_)
        refine lv_goto (tgt := 67) hx hb dX2_findPlace_93 (by decide) ?_
        exact hk67 _ _ _ _ _ _ _ h hW hS (lv_sub hl [2, 3, 4, 1, 0] rfl)
set_option maxHeartbeats 4000000 in
set_option maxRecDepth 100000 in
theorem wk_X2_findPlace_47 {n : Nat} {t : Nat} {a1 : Nat} {a2 : Int32} {x3 : Int32} {x4 : Int32} {μ : Mm} {out : Mm} (F : FX G b RX2 cX2_findPlace 7 p s m args meth c) (hr : meth.sig.returnType = none) (ht : okMz t) (ha1 : okBk a1) (h : sh_X2_findPlace_47 n t a1 a2 x3 x4 μ = some out) (hW : WH G b μ H) (hS : va_S (fb b) s.heap H locs) (hl : lv_has ls 7 [(0, .ref (b + t)), (2, .int a2), (3, .int x3), (4, .int x4)]) : W p l e ({ frames := 1, cells := 0, slots := 0, locals := 22 } : Room) s m args below meth c H locs 0 0 (MQ below (QW G b out none) args s 0 0 (fb b)) (F0 m 47 ls []) := by
  have hx := F.1
  have hb := F.2.1
  unfold sh_X2_findPlace_47 at h
  refine lv_iload hx hb dX2_findPlace_47 (lv_at hl 3 rfl) ?_
  refine lv_iload_n hx hb dX2_findPlace_49 rfl (lv_at hl 2 rfl) ?_
  refine lv_icmp_ge (tgt := 57) hx hb dX2_findPlace_50 (by decide) (fun cc => ?_) (fun cc => ?_)
  · replace h := (if_pos cc).symm.trans h
    refine lv_iload hx hb dX2_findPlace_57 (lv_at hl 3 rfl) ?_
    refine lv_istore (lv' := [(4, .int x4), (0, .ref (b + t)), (2, .int a2), (3, .int x3)]) hx hb dX2_findPlace_59 hl (by decide) rfl (fun ls hl => ?_)
    refine lv_iconst (v := (1 : Int32)) hx hb dX2_findPlace_61 (by decide) ?_
    refine lv_istore (lv' := [(5, .int (1 : Int32)), (4, .int x4), (0, .ref (b + t)), (2, .int a2), (3, .int x3)]) hx hb dX2_findPlace_62 hl (by decide) rfl (fun ls hl => ?_)
    refine lv_iload_n hx hb dX2_findPlace_64 rfl (lv_at hl 4 rfl) ?_
    refine lv_istore (lv' := [(6, .int x3), (5, .int (1 : Int32)), (4, .int x4), (0, .ref (b + t)), (2, .int a2), (3, .int x3)]) hx hb dX2_findPlace_65 hl (by decide) rfl (fun ls hl => ?_)
    exact wk_X2_findPlace_67 F hr ht ha1 n _ _ _ _ _ _ _ h hW hS (lv_sub hl [3, 4, 2, 1, 0] rfl)
  · replace h := (if_neg cc).symm.trans h
    refine lv_iconst (v := (-1 : Int32)) hx hb dX2_findPlace_53 (by decide) ?_
    refine lv_goto (tgt := 59) hx hb dX2_findPlace_54 (by decide) ?_
    refine lv_istore (lv' := [(4, .int (-1 : Int32)), (0, .ref (b + t)), (2, .int a2), (3, .int x3)]) hx hb dX2_findPlace_59 hl (by decide) rfl (fun ls hl => ?_)
    refine lv_iconst (v := (1 : Int32)) hx hb dX2_findPlace_61 (by decide) ?_
    refine lv_istore (lv' := [(5, .int (1 : Int32)), (4, .int (-1 : Int32)), (0, .ref (b + t)), (2, .int a2), (3, .int x3)]) hx hb dX2_findPlace_62 hl (by decide) rfl (fun ls hl => ?_)
    refine lv_iload_n hx hb dX2_findPlace_64 rfl (lv_at hl 4 rfl) ?_
    refine lv_istore (lv' := [(6, .int x3), (5, .int (1 : Int32)), (4, .int (-1 : Int32)), (0, .ref (b + t)), (2, .int a2), (3, .int x3)]) hx hb dX2_findPlace_65 hl (by decide) rfl (fun ls hl => ?_)
    exact wk_X2_findPlace_67 F hr ht ha1 n _ _ _ _ _ _ _ h hW hS (lv_sub hl [3, 4, 2, 1, 0] rfl)
set_option maxHeartbeats 4000000 in
set_option maxRecDepth 100000 in
theorem wk_X2_findPlace_15 {n : Nat} {t : Nat} {a1 : Nat} {a2 : Int32} {out : Mm} (F : FX G b RX2 cX2_findPlace 7 p s m args meth c) (hr : meth.sig.returnType = none) (ht : okMz t) (ha1 : okBk a1) : ∀ (f : Nat) (x3 : Int32) (x4 : Int32) (μ : Mm) (H : Heap) (locs : List Loc) (ls : Array Slot), sh_X2_findPlace_15 n t a1 a2 f x3 x4 μ = some out → WH G b μ H → va_S (fb b) s.heap H locs → lv_has ls 7 [(0, .ref (b + t)), (1, .ref (b + a1)), (2, .int a2), (3, .int x3), (4, .int x4)] → W p l e ({ frames := 1, cells := 0, slots := 0, locals := 22 } : Room) s m args below meth c H locs 0 0 (MQ below (QW G b out none) args s 0 0 (fb b)) (F0 m 15 ls []) := by
  have hx := F.1
  have hb := F.2.1
  intro f
  induction f with
  | zero =>
    intro _ _ _ _ _ _ h
    rw [sh_X2_findPlace_15] at h
    cases h
  | succ f ih =>
    intro x3 x4 μ H locs ls h hW hS hl
    rw [sh_X2_findPlace_15] at h
    have hk15 := ih
    refine lv_iload hx hb dX2_findPlace_15 (lv_at hl 4 rfl) ?_
    refine lv_iload_n hx hb dX2_findPlace_17 rfl (lv_at hl 3 rfl) ?_
    refine lv_icmp_lt (tgt := 47) hx hb dX2_findPlace_18 (by decide) (fun cc => ?_) (fun cc => ?_)
    · replace h := (if_pos cc).symm.trans h
      exact wk_X2_findPlace_47 F hr ht ha1 h hW hS (lv_sub hl [0, 2, 3, 4] rfl)
    · replace h := (if_neg cc).symm.trans h
      refine lv_aload_n hx hb dX2_findPlace_21 rfl (lv_at hl 1 rfl) ?_
      refine fl_get0 (v := .ref (b + (a1 + 3))) (ha1).1 F hW 4 (by decide) q_171 rfl rfl dX2_findPlace_22 ?_
      refine lv_iload hx hb dX2_findPlace_25 (lv_at hl 4 rfl) ?_
      obtain ⟨r9, qr9, h⟩ := ob h
      refine k_X5_at F (ha1).2.2.1 qr9 q_425 ⟨Nat.le_of_ble_eq_true rfl, Nat.le_of_ble_eq_true rfl, Nat.le_of_ble_eq_true rfl, Nat.le_of_ble_eq_true rfl⟩ hW hS hl.1 (Nat.le_of_ble_eq_true rfl) dX2_findPlace_27 (fun H locs hW hS => ?_)
      refine lv_aload_n hx hb dX2_findPlace_30 rfl (lv_at hl 1 rfl) ?_
      refine fl_get0 (v := .ref (b + (a1 + 3))) (ha1).1 F hW 4 (by decide) q_171 rfl rfl dX2_findPlace_31 ?_
      refine lv_iload_n hx hb dX2_findPlace_34 rfl (lv_at hl 2 rfl) ?_
      obtain ⟨r10, qr10, h⟩ := ob h
      refine k_X5_at F (ha1).2.2.1 qr10 q_425 ⟨Nat.le_of_ble_eq_true rfl, Nat.le_of_ble_eq_true rfl, Nat.le_of_ble_eq_true rfl, Nat.le_of_ble_eq_true rfl⟩ hW hS hl.1 (Nat.le_of_ble_eq_true rfl) dX2_findPlace_35 (fun H locs hW hS => ?_)
      refine lv_icmp_lt (tgt := 47) hx hb dX2_findPlace_38 (by decide) (fun cc => ?_) (fun cc => ?_)
      · replace h := (if_pos cc).symm.trans h
        exact wk_X2_findPlace_47 F hr ht ha1 h hW hS (lv_sub hl [0, 2, 3, 4] rfl)
      · replace h := (if_neg cc).symm.trans h
        refine lv_iinc (v := (x4 + (-1 : Int32))) (lv' := [(4, .int (x4 + (-1 : Int32))), (0, .ref (b + t)), (1, .ref (b + a1)), (2, .int a2), (3, .int x3)]) hx hb dX2_findPlace_41 hl (k := 4) rfl rfl (by decide) rfl (fun ls hl => ?_)
        refine lv_goto (tgt := 15) hx hb dX2_findPlace_44 (by decide) ?_
        exact hk15 _ _ _ _ _ _ h hW hS (lv_sub hl [1, 2, 3, 4, 0] rfl)
set_option maxHeartbeats 4000000 in
set_option maxRecDepth 100000 in
theorem wk_X2_findPlace {n : Nat} {t : Nat} {a1 : Nat} {a2 : Int32} {μ : Mm} {out : Mm} (F : FX G b RX2 cX2_findPlace 7 p s m args meth c) (hr : meth.sig.returnType = none) (ht : okMz t) (ha1 : okBk a1) (h : sh_X2_findPlace n t a1 a2 μ = some out) (hW : WH G b μ H) (hS : va_S (fb b) s.heap H locs) (hl : lv_has ls 7 [(0, .ref (b + t)), (1, .ref (b + a1)), (2, .int a2)]) : W p l e ({ frames := 1, cells := 0, slots := 0, locals := 22 } : Room) s m args below meth c H locs 0 0 (MQ below (QW G b out none) args s 0 0 (fb b)) (F0 m 0 ls []) := by
  have hx := F.1
  have hb := F.2.1
  unfold sh_X2_findPlace at h
  refine lv_aload_n hx hb dX2_findPlace_0 rfl (lv_at hl 1 rfl) ?_
  refine lv_aload_n hx hb dX2_findPlace_1 rfl (lv_at hl 1 rfl) ?_
  refine lv_iload_n hx hb dX2_findPlace_2 rfl (lv_at hl 2 rfl) ?_
  obtain ⟨r1, qr1, h⟩ := ob h
  refine k_X0_partOf F ha1 qr1 q_417 ⟨Nat.le_of_ble_eq_true rfl, Nat.le_of_ble_eq_true rfl, Nat.le_of_ble_eq_true rfl, Nat.le_of_ble_eq_true rfl⟩ hW hS hl.1 (Nat.le_of_ble_eq_true rfl) dX2_findPlace_3 (fun H locs hW hS => ?_)
  obtain ⟨r2, qr2, h⟩ := ob h
  refine k_X0_partBegin F ha1 qr2 q_421 ⟨Nat.le_of_ble_eq_true rfl, Nat.le_of_ble_eq_true rfl, Nat.le_of_ble_eq_true rfl, Nat.le_of_ble_eq_true rfl⟩ hW hS hl.1 (Nat.le_of_ble_eq_true rfl) dX2_findPlace_6 (fun H locs hW hS => ?_)
  refine lv_istore_n (lv' := [(3, .int r2), (0, .ref (b + t)), (1, .ref (b + a1)), (2, .int a2)]) hx hb dX2_findPlace_9 rfl hl (by decide) rfl (fun ls hl => ?_)
  refine lv_iload_n hx hb dX2_findPlace_10 rfl (lv_at hl 3 rfl) ?_
  refine lv_iconst (v := (1 : Int32)) hx hb dX2_findPlace_11 (by decide) ?_
  refine lv_isub hx hb dX2_findPlace_12 ?_
  obtain ⟨v3, ev3⟩ : ∃ y, y = (a2 - (1 : Int32)) := ⟨_, rfl⟩
  have h := nm_at ev3 h
  rw [← ev3]
  refine lv_istore (lv' := [(4, .int v3), (3, .int r2), (0, .ref (b + t)), (1, .ref (b + a1)), (2, .int a2)]) hx hb dX2_findPlace_13 hl (by decide) rfl (fun ls hl => ?_)
  exact wk_X2_findPlace_15 F hr ht ha1 n _ _ _ _ _ _ h hW hS (lv_sub hl [2, 3, 4, 1, 0] rfl)
set_option maxHeartbeats 4000000 in
set_option maxRecDepth 100000 in
theorem c_X2_findPlace {l : Launch} {G : Gt} {b : Nat} {n : Nat} {t : Nat} {a1 : Nat} {a2 : Int32} {μ : Mm} {out : Mm} (ht : okMz t) (ha1 : okBk a1) (h : sh_X2_findPlace n t a1 a2 μ = some out) : Met l yX2_findPlace (wU (Cond.code yX2_findPlace cX2_findPlace 7 none)) ({ frames := 1, cells := 0, slots := 0, locals := 22 } : Room) (PcW G b μ [.ref (b + t), .ref (b + a1), .int a2]) (QW G b out none) 0 0 (fb b) :=
  met_of [.ref (b + t), .ref (b + a1), .int a2] (by decide) (Nat.le_of_ble_eq_true rfl) (fun F hr hW hl => wk_X2_findPlace F hr ht ha1 h hW va_S.rf hl)
set_option maxHeartbeats 4000000 in
set_option maxRecDepth 100000 in
theorem k_X2_findPlace {own : String} {nL : Nat} (F : FX G b own cc nL p s m args meth c) {n : Nat} {t : Nat} {a1 : Nat} {a2 : Int32} {μ : Mm} {out : Mm} (ht : okMz t) (ha1 : okBk a1) (h : sh_X2_findPlace n t a1 a2 μ = some out) {index : Nat} (hl : Cond.methodLink own index yX2_findPlace ∈ TBG) (hR : 1 + 1 ≤ R.frames ∧ 8 + (7 + 11) + 22 ≤ R.locals ∧ cells ≤ R.cells ∧ slots ≤ R.slots) (hW : WH G b μ H) (hS : va_S (fb b) s.heap H locs) (hsz : ls.size = nL) (hrest : (rest.map fun v => v.category).sum ≤ 8) (hdg : decode cc pc = .ok (.invokevirtual index, 3))
    (kk : ∀ (H1 : Heap) (locs1 : List Loc), WH G b out H1 → va_S (fb b) s.heap H1 locs1 → W p l e R s m args below meth c H1 locs1 cells slots Q (F0 m (pc + 3) ls (rest))) : W p l e R s m args below meth c H locs cells slots Q (F0 m pc ls (.int a2 :: .ref (b + a1) :: .ref (b + t) :: rest)) :=
  f_callV (As := [.ref (b + a1), .int a2]) (ci := 2) (c_X2_findPlace ht ha1 h) ⟨rfl, rfl⟩ rfl (ky_lt ht.1 (by decide)) (wF_2 ht.1) q_415 qp_0 q_10 q_416 rfl ⟨by decide +kernel, by decide +kernel, (show (parseMethodDescriptor yX2_findPlace.desc).map (fun d => d.parameters.length) = some 2 by decide +kernel)⟩ F hl hR hW hS hsz hrest rfl hdg kk
set_option maxHeartbeats 4000000 in
set_option maxRecDepth 100000 in
theorem wk_X11_arabicWidth_4 {n : Nat} {a0 : Int32} {μ : Mm} {out : Int32} (F : FX G b RX11 cX11_arabicWidth 3 p s m args meth c) (hr : meth.sig.returnType = some .int) : ∀ (f : Nat) (x1 : Int32) (x2 : Int32) (H : Heap) (locs : List Loc) (ls : Array Slot), sh_X11_arabicWidth_4 n a0 μ f x1 x2 = some out → WH G b μ H → va_S (fb b) s.heap H locs → lv_has ls 3 [(1, .int x1), (2, .int x2)] → W p l e ({ frames := 1, cells := 0, slots := 0, locals := 20 } : Room) s m args below meth c H locs 0 0 (MQ below (QW G b μ (some (.int out))) args s 0 0 (fb b)) (F0 m 4 ls []) := by
  have hx := F.1
  have hb := F.2.1
  intro f
  induction f with
  | zero =>
    intro _ _ _ _ _ h
    rw [sh_X11_arabicWidth_4] at h
    cases h
  | succ f ih =>
    intro x1 x2  H locs ls h hW hS hl
    rw [sh_X11_arabicWidth_4] at h
    have hk4 := ih
    refine lv_iload_n hx hb dX11_arabicWidth_4 rfl (lv_at hl 1 rfl) ?_
    refine lv_if_le (tgt := 29) hx hb dX11_arabicWidth_5 (by decide) (fun cc => ?_) (fun cc => ?_)
    · replace h := (if_pos cc).symm.trans h
      refine lv_iload_n hx hb dX11_arabicWidth_29 rfl (lv_at hl 0 rfl) ?_
      cases h
      exact r_int F hr hW hS dX11_arabicWidth_30
    · replace h := (if_neg cc).symm.trans h
      refine lv_iload_n hx hb dX11_arabicWidth_8 rfl (lv_at hl 0 rfl) ?_
      refine lv_bipush (v := (48 : Int32)) hx hb dX11_arabicWidth_9 (by decide) ?_
      refine lv_iload_n hx hb dX11_arabicWidth_11 rfl (lv_at hl 1 rfl) ?_
      refine lv_bipush (v := (10 : Int32)) hx hb dX11_arabicWidth_12 (by decide) ?_
      obtain ⟨v1, qv1, h⟩ := ob h
      obtain ⟨zv1, qv1⟩ := rm_some qv1
      refine lv_irem hx hb dX11_arabicWidth_14 zv1 ?_
      rw [qv1]
      refine lv_iadd hx hb dX11_arabicWidth_15 ?_
      obtain ⟨r2, qr2, h⟩ := ob h
      refine k_X11_signWidth F qr2 q_444 ⟨Nat.le_of_ble_eq_true rfl, Nat.le_of_ble_eq_true rfl, Nat.le_of_ble_eq_true rfl, Nat.le_of_ble_eq_true rfl⟩ hW hS hl.1 (Nat.le_of_ble_eq_true rfl) dX11_arabicWidth_16 (fun H locs hW hS => ?_)
      refine lv_iadd hx hb dX11_arabicWidth_19 ?_
      obtain ⟨v3, ev3⟩ : ∃ y, y = (x1 + r2) := ⟨_, rfl⟩
      have h := nm_at ev3 h
      rw [← ev3]
      refine lv_istore_n (lv' := [(1, .int v3), (2, .int x2)]) hx hb dX11_arabicWidth_20 rfl hl (by decide) rfl (fun ls hl => ?_)
      refine lv_iload_n hx hb dX11_arabicWidth_21 rfl (lv_at hl 1 rfl) ?_
      refine lv_bipush (v := (10 : Int32)) hx hb dX11_arabicWidth_22 (by decide) ?_
      obtain ⟨v4, qv4, h⟩ := ob h
      obtain ⟨zv4, qv4⟩ := dv_some qv4
      refine lv_idiv hx hb dX11_arabicWidth_24 zv4 ?_
      rw [qv4]
      refine lv_istore_n (lv' := [(2, .int v4), (1, .int v3)]) hx hb dX11_arabicWidth_25 rfl hl (by decide) rfl (fun ls hl => ?_)
      refine lv_goto (tgt := 4) hx hb dX11_arabicWidth_26 (by decide) ?_
      exact hk4 _ _ _ _ _ h hW hS (lv_sub hl [1, 0] rfl)
set_option maxHeartbeats 4000000 in
set_option maxRecDepth 100000 in
theorem wk_X11_arabicWidth {n : Nat} {a0 : Int32} {μ : Mm} {out : Int32} (F : FX G b RX11 cX11_arabicWidth 3 p s m args meth c) (hr : meth.sig.returnType = some .int) (h : sh_X11_arabicWidth n a0 μ = some out) (hW : WH G b μ H) (hS : va_S (fb b) s.heap H locs) (hl : lv_has ls 3 [(0, .int a0)]) : W p l e ({ frames := 1, cells := 0, slots := 0, locals := 20 } : Room) s m args below meth c H locs 0 0 (MQ below (QW G b μ (some (.int out))) args s 0 0 (fb b)) (F0 m 0 ls []) := by
  have hx := F.1
  have hb := F.2.1
  unfold sh_X11_arabicWidth at h
  refine lv_iconst (v := (0 : Int32)) hx hb dX11_arabicWidth_0 (by decide) ?_
  refine lv_istore_n (lv' := [(1, .int (0 : Int32)), (0, .int a0)]) hx hb dX11_arabicWidth_1 rfl hl (by decide) rfl (fun ls hl => ?_)
  refine lv_iload_n hx hb dX11_arabicWidth_2 rfl (lv_at hl 1 rfl) ?_
  refine lv_istore_n (lv' := [(2, .int a0), (1, .int (0 : Int32)), (0, .int a0)]) hx hb dX11_arabicWidth_3 rfl hl (by decide) rfl (fun ls hl => ?_)
  exact wk_X11_arabicWidth_4 F hr n _ _ _ _ _ h hW hS (lv_sub hl [1, 0] rfl)
set_option maxHeartbeats 4000000 in
set_option maxRecDepth 100000 in
theorem c_X11_arabicWidth {l : Launch} {G : Gt} {b : Nat} {n : Nat} {a0 : Int32} {μ : Mm} {out : Int32} (h : sh_X11_arabicWidth n a0 μ = some out) : Met l yX11_arabicWidth (wU (Cond.code yX11_arabicWidth cX11_arabicWidth 3 (some .int))) ({ frames := 1, cells := 0, slots := 0, locals := 20 } : Room) (PcW G b μ [.int a0]) (QW G b μ (some (.int out))) 0 0 (fb b) :=
  met_of [.int a0] (by decide) (Nat.le_of_ble_eq_true rfl) (fun F hr hW hl => wk_X11_arabicWidth F hr h hW va_S.rf hl)
set_option maxHeartbeats 4000000 in
set_option maxRecDepth 100000 in
theorem k_X11_arabicWidth {nL : Nat} (F : FX G b RX11 cc nL p s m args meth c) {n : Nat} {a0 : Int32} {μ : Mm} {out : Int32} (h : sh_X11_arabicWidth n a0 μ = some out) {index : Nat} (hl : Cond.methodLink RX11 index yX11_arabicWidth ∈ TBG) (hR : 1 + 1 ≤ R.frames ∧ 8 + (3 + 11) + 20 ≤ R.locals ∧ cells ≤ R.cells ∧ slots ≤ R.slots) (hW : WH G b μ H) (hS : va_S (fb b) s.heap H locs) (hsz : ls.size = nL) (hrest : (rest.map fun v => v.category).sum ≤ 8) (hdg : decode cc pc = .ok (.invokestatic index, 3))
    (kk : ∀ (H1 : Heap) (locs1 : List Loc), WH G b μ H1 → va_S (fb b) s.heap H1 locs1 → W p l e R s m args below meth c H1 locs1 cells slots Q (F0 m (pc + 3) ls (.int out :: rest))) : W p l e R s m args below meth c H locs cells slots Q (F0 m pc ls (.int a0 :: rest)) :=
  f_callS (As := [.int a0]) (c_X11_arabicWidth h) ⟨rfl, rfl⟩ q_442 q_1 q_443 rfl ⟨by decide +kernel, by decide +kernel, (show (parseMethodDescriptor yX11_arabicWidth.desc).map (fun d => d.parameters.length) = some 1 by decide +kernel)⟩ F hl hR hW hS hsz hrest rfl hdg kk
set_option maxHeartbeats 4000000 in
set_option maxRecDepth 100000 in
theorem k_X11_arabicWidth_n {own : String} {nL : Nat} (F : FX G b own cc nL p s m args meth c) {n : Nat} {a0 : Int32} {μ : Mm} {out : Int32} (h : sh_X11_arabicWidth n a0 μ = some out) {index : Nat} (hl : (own, index, yX11_arabicWidth, "ContentsSetter") ∈ nestL) (hR : 1 + 1 ≤ R.frames ∧ 8 + (3 + 11) + 20 ≤ R.locals ∧ cells ≤ R.cells ∧ slots ≤ R.slots) (hW : WH G b μ H) (hS : va_S (fb b) s.heap H locs) (hsz : ls.size = nL) (hrest : (rest.map fun v => v.category).sum ≤ 8) (hdg : decode cc pc = .ok (.invokestatic index, 3))
    (kk : ∀ (H1 : Heap) (locs1 : List Loc), WH G b μ H1 → va_S (fb b) s.heap H1 locs1 → W p l e R s m args below meth c H1 locs1 cells slots Q (F0 m (pc + 3) ls (.int out :: rest))) : W p l e R s m args below meth c H locs cells slots Q (F0 m pc ls (.int a0 :: rest)) :=
  f_callSN (As := [.int a0]) (c_X11_arabicWidth h) ⟨rfl, rfl⟩ q_442 q_1 q_443 ⟨by decide +kernel, by decide +kernel, (show (parseMethodDescriptor yX11_arabicWidth.desc).map (fun d => d.parameters.length) = some 1 by decide +kernel)⟩ F hl hR hW hS hsz hrest rfl hdg kk
set_option maxHeartbeats 4000000 in
set_option maxRecDepth 100000 in
theorem wk_X2_measureLabel_63 {n : Nat} {t : Nat} {a1 : Nat} {a2 : Int32} {x3 : Int32} {μ : Mm} {out : Mm} (F : FX G b RX2 cX2_measureLabel 6 p s m args meth c) (hr : meth.sig.returnType = none) (ht : okMz t) (ha1 : okBk a1) (h : sh_X2_measureLabel_63 n t a1 a2 x3 μ = some out) (hW : WH G b μ H) (hS : va_S (fb b) s.heap H locs) (hl : lv_has ls 6 [(0, .ref (b + t)), (2, .int a2), (3, .int x3)]) : W p l e ({ frames := 2, cells := 0, slots := 0, locals := 42 } : Room) s m args below meth c H locs 0 0 (MQ below (QW G b out none) args s 0 0 (fb b)) (F0 m 63 ls []) := by
  have hx := F.1
  have hb := F.2.1
  unfold sh_X2_measureLabel_63 at h
  refine lv_aload_n hx hb dX2_measureLabel_63 rfl (lv_at hl 0 rfl) ?_
  refine fl_get2 (v := .ref (b + (t + 7))) (ht).1 F hW 3 (by decide) q_245 rfl rfl dX2_measureLabel_64 ?_
  refine lv_iload_n hx hb dX2_measureLabel_67 rfl (lv_at hl 1 rfl) ?_
  refine lv_iload_n hx hb dX2_measureLabel_68 rfl (lv_at hl 2 rfl) ?_
  obtain ⟨r2, qr2, h⟩ := ob h
  refine k_X5_put F (ht).2.2.2.2.1 qr2 q_429 ⟨Nat.le_of_ble_eq_true rfl, Nat.le_of_ble_eq_true rfl, Nat.le_of_ble_eq_true rfl, Nat.le_of_ble_eq_true rfl⟩ hW hS hl.1 (Nat.le_of_ble_eq_true rfl) dX2_measureLabel_69 (fun H locs hW hS => ?_)
  cases h
  exact r_void F hr hW hS dX2_measureLabel_72
set_option maxHeartbeats 4000000 in
set_option maxRecDepth 100000 in
theorem wk_X2_measureLabel_46 {n : Nat} {t : Nat} {a1 : Nat} {a2 : Int32} {s0 : Int32} {μ : Mm} {out : Mm} (F : FX G b RX2 cX2_measureLabel 6 p s m args meth c) (hr : meth.sig.returnType = none) (ht : okMz t) (ha1 : okBk a1) (h : sh_X2_measureLabel_46 n t a1 a2 s0 μ = some out) (hW : WH G b μ H) (hS : va_S (fb b) s.heap H locs) (hl : lv_has ls 6 [(0, .ref (b + t)), (2, .int a2)]) : W p l e ({ frames := 2, cells := 0, slots := 0, locals := 42 } : Room) s m args below meth c H locs 0 0 (MQ below (QW G b out none) args s 0 0 (fb b)) (F0 m 46 ls [.int s0]) := by
  have hx := F.1
  have hb := F.2.1
  unfold sh_X2_measureLabel_46 at h
  refine lv_istore (lv' := [(5, .int s0), (0, .ref (b + t)), (2, .int a2)]) hx hb dX2_measureLabel_46 hl (by decide) rfl (fun ls hl => ?_)
  refine lv_iload hx hb dX2_measureLabel_48 (lv_at hl 0 rfl) ?_
  refine lv_aload_n hx hb dX2_measureLabel_50 rfl (lv_at hl 1 rfl) ?_
  refine fl_get2 (v := .ref (b + (t + 5))) (ht).1 F hW 2 (by decide) q_243 rfl rfl dX2_measureLabel_51 ?_
  refine lv_iload_n hx hb dX2_measureLabel_54 rfl (lv_at hl 2 rfl) ?_
  obtain ⟨r6, qr6, h⟩ := ob h
  refine k_X5_at F (ht).2.2.2.1 qr6 q_425 ⟨Nat.le_of_ble_eq_true rfl, Nat.le_of_ble_eq_true rfl, Nat.le_of_ble_eq_true rfl, Nat.le_of_ble_eq_true rfl⟩ hW hS hl.1 (Nat.le_of_ble_eq_true rfl) dX2_measureLabel_55 (fun H locs hW hS => ?_)
  obtain ⟨r7, qr7, h⟩ := ob h
  refine k_X11_arabicWidth_n F qr7 (by decide +kernel) ⟨Nat.le_of_ble_eq_true rfl, Nat.le_of_ble_eq_true rfl, Nat.le_of_ble_eq_true rfl, Nat.le_of_ble_eq_true rfl⟩ hW hS hl.1 (Nat.le_of_ble_eq_true rfl) dX2_measureLabel_58 (fun H locs hW hS => ?_)
  refine lv_iadd hx hb dX2_measureLabel_61 ?_
  obtain ⟨v8, ev8⟩ : ∃ y, y = (s0 + r7) := ⟨_, rfl⟩
  have h := nm_at ev8 h
  rw [← ev8]
  refine lv_istore_n (lv' := [(3, .int v8), (5, .int s0), (0, .ref (b + t)), (2, .int a2)]) hx hb dX2_measureLabel_62 rfl hl (by decide) rfl (fun ls hl => ?_)
  exact wk_X2_measureLabel_63 F hr ht ha1 h hW hS (lv_sub hl [2, 3, 0] rfl)
set_option maxHeartbeats 4000000 in
set_option maxRecDepth 100000 in
theorem wk_X2_measureLabel {n : Nat} {t : Nat} {a1 : Nat} {a2 : Int32} {μ : Mm} {out : Mm} (F : FX G b RX2 cX2_measureLabel 6 p s m args meth c) (hr : meth.sig.returnType = none) (ht : okMz t) (ha1 : okBk a1) (h : sh_X2_measureLabel n t a1 a2 μ = some out) (hW : WH G b μ H) (hS : va_S (fb b) s.heap H locs) (hl : lv_has ls 6 [(0, .ref (b + t)), (1, .ref (b + a1)), (2, .int a2)]) : W p l e ({ frames := 2, cells := 0, slots := 0, locals := 42 } : Room) s m args below meth c H locs 0 0 (MQ below (QW G b out none) args s 0 0 (fb b)) (F0 m 0 ls []) := by
  have hx := F.1
  have hb := F.2.1
  unfold sh_X2_measureLabel at h
  refine lv_iconst (v := (0 : Int32)) hx hb dX2_measureLabel_0 (by decide) ?_
  refine lv_istore_n (lv' := [(3, .int (0 : Int32)), (0, .ref (b + t)), (1, .ref (b + a1)), (2, .int a2)]) hx hb dX2_measureLabel_1 rfl hl (by decide) rfl (fun ls hl => ?_)
  refine lv_aload_n hx hb dX2_measureLabel_2 rfl (lv_at hl 2 rfl) ?_
  refine lv_iload_n hx hb dX2_measureLabel_3 rfl (lv_at hl 3 rfl) ?_
  obtain ⟨r1, qr1, h⟩ := ob h
  refine k_X0_partOf F ha1 qr1 q_417 ⟨Nat.le_of_ble_eq_true rfl, Nat.le_of_ble_eq_true rfl, Nat.le_of_ble_eq_true rfl, Nat.le_of_ble_eq_true rfl⟩ hW hS hl.1 (Nat.le_of_ble_eq_true rfl) dX2_measureLabel_4 (fun H locs hW hS => ?_)
  refine lv_iconst (v := (1 : Int32)) hx hb dX2_measureLabel_7 (by decide) ?_
  refine lv_icmp_ne (tgt := 63) hx hb dX2_measureLabel_8 (by decide) (fun cc => ?_) (fun cc => ?_)
  · replace h := (if_neg cc).symm.trans h
    exact wk_X2_measureLabel_63 F hr ht ha1 h hW hS (lv_sub hl [1, 3, 0] rfl)
  · replace h := (if_pos cc).symm.trans h
    refine lv_aload_n hx hb dX2_measureLabel_11 rfl (lv_at hl 1 rfl) ?_
    refine fl_get2 (v := .ref (b + (t + 1))) (ht).1 F hW 0 (by decide) q_239 rfl rfl dX2_measureLabel_12 ?_
    refine lv_iload_n hx hb dX2_measureLabel_15 rfl (lv_at hl 3 rfl) ?_
    obtain ⟨r3, qr3, h⟩ := ob h
    refine k_X5_at F (ht).2.1 qr3 q_425 ⟨Nat.le_of_ble_eq_true rfl, Nat.le_of_ble_eq_true rfl, Nat.le_of_ble_eq_true rfl, Nat.le_of_ble_eq_true rfl⟩ hW hS hl.1 (Nat.le_of_ble_eq_true rfl) dX2_measureLabel_16 (fun H locs hW hS => ?_)
    refine lv_istore (lv' := [(4, .int r3), (3, .int (0 : Int32)), (0, .ref (b + t)), (1, .ref (b + a1)), (2, .int a2)]) hx hb dX2_measureLabel_19 hl (by decide) rfl (fun ls hl => ?_)
    refine lv_iload hx hb dX2_measureLabel_21 (lv_at hl 0 rfl) ?_
    refine lv_iconst (v := (-1 : Int32)) hx hb dX2_measureLabel_23 (by decide) ?_
    refine lv_icmp_ne (tgt := 31) hx hb dX2_measureLabel_24 (by decide) (fun cc => ?_) (fun cc => ?_)
    · replace h := (if_neg cc).symm.trans h
      refine lv_aload_n hx hb dX2_measureLabel_31 rfl (lv_at hl 2 rfl) ?_
      refine fl_get2 (v := .ref (b + (t + 7))) (ht).1 F hW 3 (by decide) q_245 rfl rfl dX2_measureLabel_32 ?_
      refine lv_iload hx hb dX2_measureLabel_35 (lv_at hl 0 rfl) ?_
      obtain ⟨r4, qr4, h⟩ := ob h
      refine k_X5_at F (ht).2.2.2.2.1 qr4 q_425 ⟨Nat.le_of_ble_eq_true rfl, Nat.le_of_ble_eq_true rfl, Nat.le_of_ble_eq_true rfl, Nat.le_of_ble_eq_true rfl⟩ hW hS hl.1 (Nat.le_of_ble_eq_true rfl) dX2_measureLabel_37 (fun H locs hW hS => ?_)
      refine lv_bipush (v := (46 : Int32)) hx hb dX2_measureLabel_40 (by decide) ?_
      obtain ⟨r5, qr5, h⟩ := ob h
      refine k_X11_signWidth_n F qr5 (by decide +kernel) ⟨Nat.le_of_ble_eq_true rfl, Nat.le_of_ble_eq_true rfl, Nat.le_of_ble_eq_true rfl, Nat.le_of_ble_eq_true rfl⟩ hW hS hl.1 (Nat.le_of_ble_eq_true rfl) dX2_measureLabel_42 (fun H locs hW hS => ?_)
      refine lv_iadd hx hb dX2_measureLabel_45 ?_
      exact wk_X2_measureLabel_46 F hr ht ha1 h hW hS (lv_sub hl [2, 4] rfl)
    · replace h := (if_pos cc).symm.trans h
      refine lv_iconst (v := (0 : Int32)) hx hb dX2_measureLabel_27 (by decide) ?_
      refine lv_goto (tgt := 46) hx hb dX2_measureLabel_28 (by decide) ?_
      exact wk_X2_measureLabel_46 F hr ht ha1 h hW hS (lv_sub hl [2, 4] rfl)
set_option maxHeartbeats 4000000 in
set_option maxRecDepth 100000 in
theorem c_X2_measureLabel {l : Launch} {G : Gt} {b : Nat} {n : Nat} {t : Nat} {a1 : Nat} {a2 : Int32} {μ : Mm} {out : Mm} (ht : okMz t) (ha1 : okBk a1) (h : sh_X2_measureLabel n t a1 a2 μ = some out) : Met l yX2_measureLabel (wU (Cond.code yX2_measureLabel cX2_measureLabel 6 none)) ({ frames := 2, cells := 0, slots := 0, locals := 42 } : Room) (PcW G b μ [.ref (b + t), .ref (b + a1), .int a2]) (QW G b out none) 0 0 (fb b) :=
  met_of [.ref (b + t), .ref (b + a1), .int a2] (by decide) (Nat.le_of_ble_eq_true rfl) (fun F hr hW hl => wk_X2_measureLabel F hr ht ha1 h hW va_S.rf hl)
set_option maxHeartbeats 4000000 in
set_option maxRecDepth 100000 in
theorem k_X2_measureLabel {own : String} {nL : Nat} (F : FX G b own cc nL p s m args meth c) {n : Nat} {t : Nat} {a1 : Nat} {a2 : Int32} {μ : Mm} {out : Mm} (ht : okMz t) (ha1 : okBk a1) (h : sh_X2_measureLabel n t a1 a2 μ = some out) {index : Nat} (hl : Cond.methodLink own index yX2_measureLabel ∈ TBG) (hR : 2 + 1 ≤ R.frames ∧ 8 + (6 + 11) + 42 ≤ R.locals ∧ cells ≤ R.cells ∧ slots ≤ R.slots) (hW : WH G b μ H) (hS : va_S (fb b) s.heap H locs) (hsz : ls.size = nL) (hrest : (rest.map fun v => v.category).sum ≤ 8) (hdg : decode cc pc = .ok (.invokevirtual index, 3))
    (kk : ∀ (H1 : Heap) (locs1 : List Loc), WH G b out H1 → va_S (fb b) s.heap H1 locs1 → W p l e R s m args below meth c H1 locs1 cells slots Q (F0 m (pc + 3) ls (rest))) : W p l e R s m args below meth c H locs cells slots Q (F0 m pc ls (.int a2 :: .ref (b + a1) :: .ref (b + t) :: rest)) :=
  f_callV (As := [.ref (b + a1), .int a2]) (ci := 2) (c_X2_measureLabel ht ha1 h) ⟨rfl, rfl⟩ rfl (ky_lt ht.1 (by decide)) (wF_2 ht.1) q_436 qp_1 q_10 q_437 rfl ⟨by decide +kernel, by decide +kernel, (show (parseMethodDescriptor yX2_measureLabel.desc).map (fun d => d.parameters.length) = some 2 by decide +kernel)⟩ F hl hR hW hS hsz hrest rfl hdg kk
set_option maxHeartbeats 4000000 in
set_option maxRecDepth 100000 in
theorem wk_X2_measureTitle_76 {n : Nat} {t : Nat} {a1 : Nat} {a2 : Int32} {k5 : (Int32 → Int32 → Mm → Option Mm)} {x3 : Int32} {x4 : Int32} {x5 : Int32} {x6 : Int32} {μ : Mm} {out : Mm} (F : FX G b RX2 cX2_measureTitle 7 p s m args meth c) (hr : meth.sig.returnType = none) (ht : okMz t) (ha1 : okBk a1) (hk5 : ∀ (x3 : Int32) (x4 : Int32) (μ : Mm) (H : Heap) (locs : List Loc) (ls : Array Slot), k5 x3 x4 μ = some out → WH G b μ H → va_S (fb b) s.heap H locs → lv_has ls 7 [(0, .ref (b + t)), (1, .ref (b + a1)), (2, .int a2), (3, .int x3), (4, .int x4)] → W p l e ({ frames := 2, cells := 0, slots := 0, locals := 45 } : Room) s m args below meth c H locs 0 0 (MQ below (QW G b out none) args s 0 0 (fb b)) (F0 m 5 ls [])) (h : sh_X2_measureTitle_76 n t a1 a2 k5 x3 x4 x5 x6 μ = some out) (hW : WH G b μ H) (hS : va_S (fb b) s.heap H locs) (hl : lv_has ls 7 [(0, .ref (b + t)), (1, .ref (b + a1)), (2, .int a2), (3, .int x3), (4, .int x4), (5, .int x5), (6, .int x6)]) : W p l e ({ frames := 2, cells := 0, slots := 0, locals := 45 } : Room) s m args below meth c H locs 0 0 (MQ below (QW G b out none) args s 0 0 (fb b)) (F0 m 76 ls []) := by
  have hx := F.1
  have hb := F.2.1
  unfold sh_X2_measureTitle_76 at h
  refine lv_aload_n hx hb dX2_measureTitle_76 rfl (lv_at hl 0 rfl) ?_
  refine fl_get2 (v := .ref (b + (t + 9))) (ht).1 F hW 4 (by decide) q_246 rfl rfl dX2_measureTitle_77 ?_
  refine lv_iload hx hb dX2_measureTitle_80 (lv_at hl 5 rfl) ?_
  refine lv_iload hx hb dX2_measureTitle_82 (lv_at hl 6 rfl) ?_
  obtain ⟨r6, qr6, h⟩ := ob h
  refine k_X5_put F (ht).2.2.2.2.2.1 qr6 q_429 ⟨Nat.le_of_ble_eq_true rfl, Nat.le_of_ble_eq_true rfl, Nat.le_of_ble_eq_true rfl, Nat.le_of_ble_eq_true rfl⟩ hW hS hl.1 (Nat.le_of_ble_eq_true rfl) dX2_measureTitle_84 (fun H locs hW hS => ?_)
  refine lv_iload_n hx hb dX2_measureTitle_87 rfl (lv_at hl 3 rfl) ?_
  refine lv_iload hx hb dX2_measureTitle_88 (lv_at hl 6 rfl) ?_
  refine lv_iload hx hb dX2_measureTitle_90 (lv_at hl 4 rfl) ?_
  refine lv_if_ne (tgt := 99) hx hb dX2_measureTitle_92 (by decide) (fun cc => ?_) (fun cc => ?_)
  · replace h := (if_neg cc).symm.trans h
    refine lv_bipush (v := (32 : Int32)) hx hb dX2_measureTitle_99 (by decide) ?_
    obtain ⟨r7, qr7, h⟩ := ob h
    refine k_X11_signWidth_n F qr7 (by decide +kernel) ⟨Nat.le_of_ble_eq_true rfl, Nat.le_of_ble_eq_true rfl, Nat.le_of_ble_eq_true rfl, Nat.le_of_ble_eq_true rfl⟩ hW hS hl.1 (Nat.le_of_ble_eq_true rfl) dX2_measureTitle_101 (fun H locs hW hS => ?_)
    refine lv_iadd hx hb dX2_measureTitle_104 ?_
    refine lv_iadd hx hb dX2_measureTitle_105 ?_
    obtain ⟨v8, ev8⟩ : ∃ y, y = (x3 + (x6 + r7)) := ⟨_, rfl⟩
    have h := nm_at ev8 h
    rw [← ev8]
    refine lv_istore_n (lv' := [(3, .int v8), (0, .ref (b + t)), (1, .ref (b + a1)), (2, .int a2), (4, .int x4), (5, .int x5), (6, .int x6)]) hx hb dX2_measureTitle_106 rfl hl (by decide) rfl (fun ls hl => ?_)
    refine lv_iinc (v := (x4 + (1 : Int32))) (lv' := [(4, .int (x4 + (1 : Int32))), (3, .int v8), (0, .ref (b + t)), (1, .ref (b + a1)), (2, .int a2), (5, .int x5), (6, .int x6)]) hx hb dX2_measureTitle_107 hl (k := 4) rfl rfl (by decide) rfl (fun ls hl => ?_)
    refine lv_goto (tgt := 5) hx hb dX2_measureTitle_110 (by decide) ?_
    exact hk5 _ _ _ _ _ _ h hW hS (lv_sub hl [2, 3, 4, 1, 0] rfl)
  · replace h := (if_pos cc).symm.trans h
    refine lv_iconst (v := (0 : Int32)) hx hb dX2_measureTitle_95 (by decide) ?_
    refine lv_goto (tgt := 104) hx hb dX2_measureTitle_96 (by decide) ?_
    refine lv_iadd hx hb dX2_measureTitle_104 ?_
    refine lv_iadd hx hb dX2_measureTitle_105 ?_
    obtain ⟨v9, ev9⟩ : ∃ y, y = (x3 + (x6 + (0 : Int32))) := ⟨_, rfl⟩
    have h := nm_at ev9 h
    rw [← ev9]
    refine lv_istore_n (lv' := [(3, .int v9), (0, .ref (b + t)), (1, .ref (b + a1)), (2, .int a2), (4, .int x4), (5, .int x5), (6, .int x6)]) hx hb dX2_measureTitle_106 rfl hl (by decide) rfl (fun ls hl => ?_)
    refine lv_iinc (v := (x4 + (1 : Int32))) (lv' := [(4, .int (x4 + (1 : Int32))), (3, .int v9), (0, .ref (b + t)), (1, .ref (b + a1)), (2, .int a2), (5, .int x5), (6, .int x6)]) hx hb dX2_measureTitle_107 hl (k := 4) rfl rfl (by decide) rfl (fun ls hl => ?_)
    refine lv_goto (tgt := 5) hx hb dX2_measureTitle_110 (by decide) ?_
    exact hk5 _ _ _ _ _ _ h hW hS (lv_sub hl [2, 3, 4, 1, 0] rfl)
set_option maxHeartbeats 4000000 in
set_option maxRecDepth 100000 in
theorem wk_X2_measureTitle_5 {n : Nat} {t : Nat} {a1 : Nat} {a2 : Int32} {out : Mm} (F : FX G b RX2 cX2_measureTitle 7 p s m args meth c) (hr : meth.sig.returnType = none) (ht : okMz t) (ha1 : okBk a1) : ∀ (f : Nat) (x3 : Int32) (x4 : Int32) (μ : Mm) (H : Heap) (locs : List Loc) (ls : Array Slot), sh_X2_measureTitle_5 n t a1 a2 f x3 x4 μ = some out → WH G b μ H → va_S (fb b) s.heap H locs → lv_has ls 7 [(0, .ref (b + t)), (1, .ref (b + a1)), (2, .int a2), (3, .int x3), (4, .int x4)] → W p l e ({ frames := 2, cells := 0, slots := 0, locals := 45 } : Room) s m args below meth c H locs 0 0 (MQ below (QW G b out none) args s 0 0 (fb b)) (F0 m 5 ls []) := by
  have hx := F.1
  have hb := F.2.1
  intro f
  induction f with
  | zero =>
    intro _ _ _ _ _ _ h
    rw [sh_X2_measureTitle_5] at h
    cases h
  | succ f ih =>
    intro x3 x4 μ H locs ls h hW hS hl
    rw [sh_X2_measureTitle_5] at h
    have hk5 := ih
    refine lv_iload hx hb dX2_measureTitle_5 (lv_at hl 4 rfl) ?_
    refine lv_aload_n hx hb dX2_measureTitle_7 rfl (lv_at hl 1 rfl) ?_
    refine fl_get0 (v := .ref (b + (a1 + 7))) (ha1).1 F hW 6 (by decide) q_183 rfl rfl dX2_measureTitle_8 ?_
    refine lv_iload_n hx hb dX2_measureTitle_11 rfl (lv_at hl 2 rfl) ?_
    obtain ⟨r1, qr1, h⟩ := ob h
    refine k_X5_at F (ha1).2.2.2.2.1 qr1 q_425 ⟨Nat.le_of_ble_eq_true rfl, Nat.le_of_ble_eq_true rfl, Nat.le_of_ble_eq_true rfl, Nat.le_of_ble_eq_true rfl⟩ hW hS hl.1 (Nat.le_of_ble_eq_true rfl) dX2_measureTitle_12 (fun H locs hW hS => ?_)
    refine lv_icmp_ge (tgt := 113) hx hb dX2_measureTitle_15 (by decide) (fun cc => ?_) (fun cc => ?_)
    · replace h := (if_pos cc).symm.trans h
      refine lv_aload_n hx hb dX2_measureTitle_113 rfl (lv_at hl 0 rfl) ?_
      refine fl_get2 (v := .ref (b + (t + 11))) (ht).1 F hW 5 (by decide) q_248 rfl rfl dX2_measureTitle_114 ?_
      refine lv_iload_n hx hb dX2_measureTitle_117 rfl (lv_at hl 2 rfl) ?_
      refine lv_iload_n hx hb dX2_measureTitle_118 rfl (lv_at hl 3 rfl) ?_
      obtain ⟨r2, qr2, h⟩ := ob h
      refine k_X5_put F (ht).2.2.2.2.2.2 qr2 q_429 ⟨Nat.le_of_ble_eq_true rfl, Nat.le_of_ble_eq_true rfl, Nat.le_of_ble_eq_true rfl, Nat.le_of_ble_eq_true rfl⟩ hW hS hl.1 (Nat.le_of_ble_eq_true rfl) dX2_measureTitle_119 (fun H locs hW hS => ?_)
      cases h
      exact r_void F hr hW hS dX2_measureTitle_122
    · replace h := (if_neg cc).symm.trans h
      refine lv_iload_n hx hb dX2_measureTitle_18 rfl (lv_at hl 2 rfl) ?_
      refine lv_bipush (v := (8 : Int32)) hx hb dX2_measureTitle_19 (by decide) ?_
      refine lv_imul hx hb dX2_measureTitle_21 ?_
      refine lv_iload hx hb dX2_measureTitle_22 (lv_at hl 4 rfl) ?_
      refine lv_iadd hx hb dX2_measureTitle_24 ?_
      obtain ⟨v3, ev3⟩ : ∃ y, y = ((a2 * (8 : Int32)) + x4) := ⟨_, rfl⟩
      have h := nm_at ev3 h
      rw [← ev3]
      refine lv_istore (lv' := [(5, .int v3), (0, .ref (b + t)), (1, .ref (b + a1)), (2, .int a2), (3, .int x3), (4, .int x4)]) hx hb dX2_measureTitle_25 hl (by decide) rfl (fun ls hl => ?_)
      refine lv_aload_n hx hb dX2_measureTitle_27 rfl (lv_at hl 2 rfl) ?_
      refine fl_get0 (v := .ref (b + (a1 + 9))) (ha1).1 F hW 7 (by decide) q_187 rfl rfl dX2_measureTitle_28 ?_
      refine lv_iload hx hb dX2_measureTitle_31 (lv_at hl 0 rfl) ?_
      obtain ⟨r4, qr4, h⟩ := ob h
      refine k_X9_at F (ha1).2.2.2.2.2.1 qr4 q_449 ⟨Nat.le_of_ble_eq_true rfl, Nat.le_of_ble_eq_true rfl, Nat.le_of_ble_eq_true rfl, Nat.le_of_ble_eq_true rfl⟩ hW hS hl.1 (Nat.le_of_ble_eq_true rfl) dX2_measureTitle_33 (fun H locs hW hS => ?_)
      obtain ⟨r5, qr5, h⟩ := ob h
      refine k_X9_widthOf_x F qr5 q_453 ⟨Nat.le_of_ble_eq_true rfl, Nat.le_of_ble_eq_true rfl, Nat.le_of_ble_eq_true rfl, Nat.le_of_ble_eq_true rfl⟩ hW hS hl.1 (Nat.le_of_ble_eq_true rfl) dX2_measureTitle_36 (fun H locs hW hS => ?_)
      refine lv_istore (lv' := [(6, .int r5), (5, .int v3), (0, .ref (b + t)), (1, .ref (b + a1)), (2, .int a2), (3, .int x3), (4, .int x4)]) hx hb dX2_measureTitle_39 hl (by decide) rfl (fun ls hl => ?_)
      refine lv_iload hx hb dX2_measureTitle_41 (lv_at hl 6 rfl) ?_
      refine lv_if_ne (tgt := 76) hx hb dX2_measureTitle_43 (by decide) (fun cc => ?_) (fun cc => ?_)
      · replace h := (if_neg cc).symm.trans h
        exact wk_X2_measureTitle_76 F hr ht ha1 hk5 h hW hS (lv_sub hl [2, 3, 4, 5, 6, 1, 0] rfl)
      · replace h := (if_pos cc).symm.trans h
        refine lv_aload_n hx hb dX2_measureTitle_46 rfl (lv_at hl 2 rfl) ?_
        refine fl_get2 (v := .ref (b + (t + 7))) (ht).1 F hW 3 (by decide) q_245 rfl rfl dX2_measureTitle_47 ?_
        refine lv_iload_n hx hb dX2_measureTitle_50 rfl (lv_at hl 4 rfl) ?_
        obtain ⟨r10, qr10, h⟩ := ob h
        refine k_X5_at F (ht).2.2.2.2.1 qr10 q_425 ⟨Nat.le_of_ble_eq_true rfl, Nat.le_of_ble_eq_true rfl, Nat.le_of_ble_eq_true rfl, Nat.le_of_ble_eq_true rfl⟩ hW hS hl.1 (Nat.le_of_ble_eq_true rfl) dX2_measureTitle_51 (fun H locs hW hS => ?_)
        refine lv_if_le (tgt := 76) hx hb dX2_measureTitle_54 (by decide) (fun cc => ?_) (fun cc => ?_)
        · replace h := (if_pos cc).symm.trans h
          exact wk_X2_measureTitle_76 F hr ht ha1 hk5 h hW hS (lv_sub hl [2, 3, 4, 5, 6, 1, 0] rfl)
        · replace h := (if_neg cc).symm.trans h
          refine lv_iload hx hb dX2_measureTitle_57 (lv_at hl 0 rfl) ?_
          refine lv_aload_n hx hb dX2_measureTitle_59 rfl (lv_at hl 2 rfl) ?_
          refine fl_get2 (v := .ref (b + (t + 7))) (ht).1 F hW 3 (by decide) q_245 rfl rfl dX2_measureTitle_60 ?_
          refine lv_iload_n hx hb dX2_measureTitle_63 rfl (lv_at hl 4 rfl) ?_
          obtain ⟨r11, qr11, h⟩ := ob h
          refine k_X5_at F (ht).2.2.2.2.1 qr11 q_425 ⟨Nat.le_of_ble_eq_true rfl, Nat.le_of_ble_eq_true rfl, Nat.le_of_ble_eq_true rfl, Nat.le_of_ble_eq_true rfl⟩ hW hS hl.1 (Nat.le_of_ble_eq_true rfl) dX2_measureTitle_64 (fun H locs hW hS => ?_)
          refine lv_bipush (v := (32 : Int32)) hx hb dX2_measureTitle_67 (by decide) ?_
          obtain ⟨r12, qr12, h⟩ := ob h
          refine k_X11_signWidth_n F qr12 (by decide +kernel) ⟨Nat.le_of_ble_eq_true rfl, Nat.le_of_ble_eq_true rfl, Nat.le_of_ble_eq_true rfl, Nat.le_of_ble_eq_true rfl⟩ hW hS hl.1 (Nat.le_of_ble_eq_true rfl) dX2_measureTitle_69 (fun H locs hW hS => ?_)
          refine lv_iadd hx hb dX2_measureTitle_72 ?_
          refine lv_iadd hx hb dX2_measureTitle_73 ?_
          obtain ⟨v13, ev13⟩ : ∃ y, y = (r5 + (r11 + r12)) := ⟨_, rfl⟩
          have h := nm_at ev13 h
          rw [← ev13]
          refine lv_istore (lv' := [(6, .int v13), (5, .int v3), (0, .ref (b + t)), (1, .ref (b + a1)), (2, .int a2), (3, .int x3), (4, .int x4)]) hx hb dX2_measureTitle_74 hl (by decide) rfl (fun ls hl => ?_)
          exact wk_X2_measureTitle_76 F hr ht ha1 hk5 h hW hS (lv_sub hl [2, 3, 4, 5, 6, 1, 0] rfl)
set_option maxHeartbeats 4000000 in
set_option maxRecDepth 100000 in
theorem wk_X2_measureTitle {n : Nat} {t : Nat} {a1 : Nat} {a2 : Int32} {μ : Mm} {out : Mm} (F : FX G b RX2 cX2_measureTitle 7 p s m args meth c) (hr : meth.sig.returnType = none) (ht : okMz t) (ha1 : okBk a1) (h : sh_X2_measureTitle n t a1 a2 μ = some out) (hW : WH G b μ H) (hS : va_S (fb b) s.heap H locs) (hl : lv_has ls 7 [(0, .ref (b + t)), (1, .ref (b + a1)), (2, .int a2)]) : W p l e ({ frames := 2, cells := 0, slots := 0, locals := 45 } : Room) s m args below meth c H locs 0 0 (MQ below (QW G b out none) args s 0 0 (fb b)) (F0 m 0 ls []) := by
  have hx := F.1
  have hb := F.2.1
  unfold sh_X2_measureTitle at h
  refine lv_iconst (v := (0 : Int32)) hx hb dX2_measureTitle_0 (by decide) ?_
  refine lv_istore_n (lv' := [(3, .int (0 : Int32)), (0, .ref (b + t)), (1, .ref (b + a1)), (2, .int a2)]) hx hb dX2_measureTitle_1 rfl hl (by decide) rfl (fun ls hl => ?_)
  refine lv_iconst (v := (0 : Int32)) hx hb dX2_measureTitle_2 (by decide) ?_
  refine lv_istore (lv' := [(4, .int (0 : Int32)), (3, .int (0 : Int32)), (0, .ref (b + t)), (1, .ref (b + a1)), (2, .int a2)]) hx hb dX2_measureTitle_3 hl (by decide) rfl (fun ls hl => ?_)
  exact wk_X2_measureTitle_5 F hr ht ha1 n _ _ _ _ _ _ h hW hS (lv_sub hl [2, 3, 4, 1, 0] rfl)
set_option maxHeartbeats 4000000 in
set_option maxRecDepth 100000 in
theorem c_X2_measureTitle {l : Launch} {G : Gt} {b : Nat} {n : Nat} {t : Nat} {a1 : Nat} {a2 : Int32} {μ : Mm} {out : Mm} (ht : okMz t) (ha1 : okBk a1) (h : sh_X2_measureTitle n t a1 a2 μ = some out) : Met l yX2_measureTitle (wU (Cond.code yX2_measureTitle cX2_measureTitle 7 none)) ({ frames := 2, cells := 0, slots := 0, locals := 45 } : Room) (PcW G b μ [.ref (b + t), .ref (b + a1), .int a2]) (QW G b out none) 0 0 (fb b) :=
  met_of [.ref (b + t), .ref (b + a1), .int a2] (by decide) (Nat.le_of_ble_eq_true rfl) (fun F hr hW hl => wk_X2_measureTitle F hr ht ha1 h hW va_S.rf hl)
set_option maxHeartbeats 4000000 in
set_option maxRecDepth 100000 in
theorem k_X2_measureTitle {own : String} {nL : Nat} (F : FX G b own cc nL p s m args meth c) {n : Nat} {t : Nat} {a1 : Nat} {a2 : Int32} {μ : Mm} {out : Mm} (ht : okMz t) (ha1 : okBk a1) (h : sh_X2_measureTitle n t a1 a2 μ = some out) {index : Nat} (hl : Cond.methodLink own index yX2_measureTitle ∈ TBG) (hR : 2 + 1 ≤ R.frames ∧ 8 + (7 + 11) + 45 ≤ R.locals ∧ cells ≤ R.cells ∧ slots ≤ R.slots) (hW : WH G b μ H) (hS : va_S (fb b) s.heap H locs) (hsz : ls.size = nL) (hrest : (rest.map fun v => v.category).sum ≤ 8) (hdg : decode cc pc = .ok (.invokevirtual index, 3))
    (kk : ∀ (H1 : Heap) (locs1 : List Loc), WH G b out H1 → va_S (fb b) s.heap H1 locs1 → W p l e R s m args below meth c H1 locs1 cells slots Q (F0 m (pc + 3) ls (rest))) : W p l e R s m args below meth c H locs cells slots Q (F0 m pc ls (.int a2 :: .ref (b + a1) :: .ref (b + t) :: rest)) :=
  f_callV (As := [.ref (b + a1), .int a2]) (ci := 2) (c_X2_measureTitle ht ha1 h) ⟨rfl, rfl⟩ rfl (ky_lt ht.1 (by decide)) (wF_2 ht.1) q_447 qp_2 q_10 q_448 rfl ⟨by decide +kernel, by decide +kernel, (show (parseMethodDescriptor yX2_measureTitle.desc).map (fun d => d.parameters.length) = some 2 by decide +kernel)⟩ F hl hR hW hS hsz hrest rfl hdg kk
set_option maxHeartbeats 4000000 in
set_option maxRecDepth 100000 in
theorem wk_X2_measure_2 {n : Nat} {t : Nat} {a1 : Nat} {out : Mm} (F : FX G b RX2 cX2_measure 3 p s m args meth c) (hr : meth.sig.returnType = none) (ht : okMz t) (ha1 : okBk a1) : ∀ (f : Nat) (x2 : Int32) (μ : Mm) (H : Heap) (locs : List Loc) (ls : Array Slot), sh_X2_measure_2 n t a1 f x2 μ = some out → WH G b μ H → va_S (fb b) s.heap H locs → lv_has ls 3 [(0, .ref (b + t)), (1, .ref (b + a1)), (2, .int x2)] → W p l e ({ frames := 3, cells := 0, slots := 0, locals := 71 } : Room) s m args below meth c H locs 0 0 (MQ below (QW G b out none) args s 0 0 (fb b)) (F0 m 2 ls []) := by
  have hx := F.1
  have hb := F.2.1
  intro f
  induction f with
  | zero =>
    intro _ _ _ _ _ h
    rw [sh_X2_measure_2] at h
    cases h
  | succ f ih =>
    intro x2 μ H locs ls h hW hS hl
    rw [sh_X2_measure_2] at h
    have hk2 := ih
    refine lv_iload_n hx hb dX2_measure_2 rfl (lv_at hl 2 rfl) ?_
    refine lv_aload_n hx hb dX2_measure_3 rfl (lv_at hl 1 rfl) ?_
    refine fl_get0 (v := .int (μ.1 a1 2)) (ha1).1 F hW 2 (by decide) q_158 rfl rfl dX2_measure_4 ?_
    refine lv_icmp_ge (tgt := 34) hx hb dX2_measure_7 (by decide) (fun cc => ?_) (fun cc => ?_)
    · replace h := (if_pos cc).symm.trans h
      cases h
      exact r_void F hr hW hS dX2_measure_34
    · replace h := (if_neg cc).symm.trans h
      refine lv_aload_n hx hb dX2_measure_10 rfl (lv_at hl 0 rfl) ?_
      refine lv_aload_n hx hb dX2_measure_11 rfl (lv_at hl 1 rfl) ?_
      refine lv_iload_n hx hb dX2_measure_12 rfl (lv_at hl 2 rfl) ?_
      obtain ⟨r1, qr1, h⟩ := ob h
      refine k_X2_findPlace F ht ha1 qr1 q_413 ⟨Nat.le_of_ble_eq_true rfl, Nat.le_of_ble_eq_true rfl, Nat.le_of_ble_eq_true rfl, Nat.le_of_ble_eq_true rfl⟩ hW hS hl.1 (Nat.le_of_ble_eq_true rfl) dX2_measure_13 (fun H locs hW hS => ?_)
      refine lv_aload_n hx hb dX2_measure_16 rfl (lv_at hl 0 rfl) ?_
      refine lv_aload_n hx hb dX2_measure_17 rfl (lv_at hl 1 rfl) ?_
      refine lv_iload_n hx hb dX2_measure_18 rfl (lv_at hl 2 rfl) ?_
      obtain ⟨r2, qr2, h⟩ := ob h
      refine k_X2_measureLabel F ht ha1 qr2 q_434 ⟨Nat.le_of_ble_eq_true rfl, Nat.le_of_ble_eq_true rfl, Nat.le_of_ble_eq_true rfl, Nat.le_of_ble_eq_true rfl⟩ hW hS hl.1 (Nat.le_of_ble_eq_true rfl) dX2_measure_19 (fun H locs hW hS => ?_)
      refine lv_aload_n hx hb dX2_measure_22 rfl (lv_at hl 0 rfl) ?_
      refine lv_aload_n hx hb dX2_measure_23 rfl (lv_at hl 1 rfl) ?_
      refine lv_iload_n hx hb dX2_measure_24 rfl (lv_at hl 2 rfl) ?_
      obtain ⟨r3, qr3, h⟩ := ob h
      refine k_X2_measureTitle F ht ha1 qr3 q_445 ⟨Nat.le_of_ble_eq_true rfl, Nat.le_of_ble_eq_true rfl, Nat.le_of_ble_eq_true rfl, Nat.le_of_ble_eq_true rfl⟩ hW hS hl.1 (Nat.le_of_ble_eq_true rfl) dX2_measure_25 (fun H locs hW hS => ?_)
      refine lv_iinc (v := (x2 + (1 : Int32))) (lv' := [(2, .int (x2 + (1 : Int32))), (0, .ref (b + t)), (1, .ref (b + a1))]) hx hb dX2_measure_28 hl (k := 2) rfl rfl (by decide) rfl (fun ls hl => ?_)
      refine lv_goto (tgt := 2) hx hb dX2_measure_31 (by decide) ?_
      exact hk2 _ _ _ _ _ h hW hS (lv_sub hl [1, 2, 0] rfl)
set_option maxHeartbeats 4000000 in
set_option maxRecDepth 100000 in
theorem wk_X2_measure {n : Nat} {t : Nat} {a1 : Nat} {μ : Mm} {out : Mm} (F : FX G b RX2 cX2_measure 3 p s m args meth c) (hr : meth.sig.returnType = none) (ht : okMz t) (ha1 : okBk a1) (h : sh_X2_measure n t a1 μ = some out) (hW : WH G b μ H) (hS : va_S (fb b) s.heap H locs) (hl : lv_has ls 3 [(0, .ref (b + t)), (1, .ref (b + a1))]) : W p l e ({ frames := 3, cells := 0, slots := 0, locals := 71 } : Room) s m args below meth c H locs 0 0 (MQ below (QW G b out none) args s 0 0 (fb b)) (F0 m 0 ls []) := by
  have hx := F.1
  have hb := F.2.1
  unfold sh_X2_measure at h
  refine lv_iconst (v := (0 : Int32)) hx hb dX2_measure_0 (by decide) ?_
  refine lv_istore_n (lv' := [(2, .int (0 : Int32)), (0, .ref (b + t)), (1, .ref (b + a1))]) hx hb dX2_measure_1 rfl hl (by decide) rfl (fun ls hl => ?_)
  exact wk_X2_measure_2 F hr ht ha1 n _ _ _ _ _ h hW hS (lv_sub hl [1, 2, 0] rfl)
set_option maxHeartbeats 4000000 in
set_option maxRecDepth 100000 in
theorem c_X2_measure {l : Launch} {G : Gt} {b : Nat} {n : Nat} {t : Nat} {a1 : Nat} {μ : Mm} {out : Mm} (ht : okMz t) (ha1 : okBk a1) (h : sh_X2_measure n t a1 μ = some out) : Met l yX2_measure (wU (Cond.code yX2_measure cX2_measure 3 none)) ({ frames := 3, cells := 0, slots := 0, locals := 71 } : Room) (PcW G b μ [.ref (b + t), .ref (b + a1)]) (QW G b out none) 0 0 (fb b) :=
  met_of [.ref (b + t), .ref (b + a1)] (by decide) (Nat.le_of_ble_eq_true rfl) (fun F hr hW hl => wk_X2_measure F hr ht ha1 h hW va_S.rf hl)
set_option maxHeartbeats 4000000 in
set_option maxRecDepth 100000 in
theorem k_X2_measure {own : String} {nL : Nat} (F : FX G b own cc nL p s m args meth c) {n : Nat} {t : Nat} {a1 : Nat} {μ : Mm} {out : Mm} (ht : okMz t) (ha1 : okBk a1) (h : sh_X2_measure n t a1 μ = some out) {index : Nat} (hl : Cond.methodLink own index yX2_measure ∈ TBG) (hR : 3 + 1 ≤ R.frames ∧ 8 + (3 + 11) + 71 ≤ R.locals ∧ cells ≤ R.cells ∧ slots ≤ R.slots) (hW : WH G b μ H) (hS : va_S (fb b) s.heap H locs) (hsz : ls.size = nL) (hrest : (rest.map fun v => v.category).sum ≤ 8) (hdg : decode cc pc = .ok (.invokevirtual index, 3))
    (kk : ∀ (H1 : Heap) (locs1 : List Loc), WH G b out H1 → va_S (fb b) s.heap H1 locs1 → W p l e R s m args below meth c H1 locs1 cells slots Q (F0 m (pc + 3) ls (rest))) : W p l e R s m args below meth c H locs cells slots Q (F0 m pc ls (.ref (b + a1) :: .ref (b + t) :: rest)) :=
  f_callV (As := [.ref (b + a1)]) (ci := 2) (c_X2_measure ht ha1 h) ⟨rfl, rfl⟩ rfl (ky_lt ht.1 (by decide)) (wF_2 ht.1) q_410 q_411 q_10 q_412 rfl ⟨by decide +kernel, by decide +kernel, (show (parseMethodDescriptor yX2_measure.desc).map (fun d => d.parameters.length) = some 1 by decide +kernel)⟩ F hl hR hW hS hsz hrest rfl hdg kk
set_option maxHeartbeats 4000000 in
set_option maxRecDepth 100000 in
theorem wk_X2_ordinalAt_13 {n : Nat} {t : Nat} {a1 : Nat} {a2 : Int32} {a3 : Int32} {μ : Mm} {out : Int32} (F : FX G b RX2 cX2_ordinalAt 6 p s m args meth c) (hr : meth.sig.returnType = some .int) (ht : okMz t) (ha1 : okBk a1) : ∀ (f : Nat) (x4 : Int32) (x5 : Int32) (H : Heap) (locs : List Loc) (ls : Array Slot), sh_X2_ordinalAt_13 n t a1 a2 a3 μ f x4 x5 = some out → WH G b μ H → va_S (fb b) s.heap H locs → lv_has ls 6 [(0, .ref (b + t)), (3, .int a3), (4, .int x4), (5, .int x5)] → W p l e ({ frames := 1, cells := 0, slots := 0, locals := 21 } : Room) s m args below meth c H locs 0 0 (MQ below (QW G b μ (some (.int out))) args s 0 0 (fb b)) (F0 m 13 ls []) := by
  have hx := F.1
  have hb := F.2.1
  intro f
  induction f with
  | zero =>
    intro _ _ _ _ _ h
    rw [sh_X2_ordinalAt_13] at h
    cases h
  | succ f ih =>
    intro x4 x5  H locs ls h hW hS hl
    rw [sh_X2_ordinalAt_13] at h
    have hk13 := ih
    refine lv_iload hx hb dX2_ordinalAt_13 (lv_at hl 3 rfl) ?_
    refine lv_iload_n hx hb dX2_ordinalAt_15 rfl (lv_at hl 1 rfl) ?_
    refine lv_icmp_le (tgt := 36) hx hb dX2_ordinalAt_16 (by decide) (fun cc => ?_) (fun cc => ?_)
    · replace h := (if_pos cc).symm.trans h
      refine lv_aload_n hx hb dX2_ordinalAt_36 rfl (lv_at hl 0 rfl) ?_
      refine fl_get2 (v := .ref (b + (t + 5))) (ht).1 F hW 2 (by decide) q_243 rfl rfl dX2_ordinalAt_37 ?_
      refine lv_iload hx hb dX2_ordinalAt_40 (lv_at hl 2 rfl) ?_
      obtain ⟨r2, qr2, h⟩ := ob h
      refine k_X5_at F (ht).2.2.2.1 qr2 q_425 ⟨Nat.le_of_ble_eq_true rfl, Nat.le_of_ble_eq_true rfl, Nat.le_of_ble_eq_true rfl, Nat.le_of_ble_eq_true rfl⟩ hW hS hl.1 (Nat.le_of_ble_eq_true rfl) dX2_ordinalAt_42 (fun H locs hW hS => ?_)
      cases h
      exact r_int F hr hW hS dX2_ordinalAt_45
    · replace h := (if_neg cc).symm.trans h
      refine lv_aload_n hx hb dX2_ordinalAt_19 rfl (lv_at hl 0 rfl) ?_
      refine fl_get2 (v := .ref (b + (t + 1))) (ht).1 F hW 0 (by decide) q_239 rfl rfl dX2_ordinalAt_20 ?_
      refine lv_iload hx hb dX2_ordinalAt_23 (lv_at hl 2 rfl) ?_
      obtain ⟨r3, qr3, h⟩ := ob h
      refine k_X5_at F (ht).2.1 qr3 q_425 ⟨Nat.le_of_ble_eq_true rfl, Nat.le_of_ble_eq_true rfl, Nat.le_of_ble_eq_true rfl, Nat.le_of_ble_eq_true rfl⟩ hW hS hl.1 (Nat.le_of_ble_eq_true rfl) dX2_ordinalAt_25 (fun H locs hW hS => ?_)
      refine lv_istore (lv' := [(4, .int r3), (0, .ref (b + t)), (3, .int a3), (5, .int x5)]) hx hb dX2_ordinalAt_28 hl (by decide) rfl (fun ls hl => ?_)
      refine lv_iinc (v := (x5 + (-1 : Int32))) (lv' := [(5, .int (x5 + (-1 : Int32))), (4, .int r3), (0, .ref (b + t)), (3, .int a3)]) hx hb dX2_ordinalAt_30 hl (k := 3) rfl rfl (by decide) rfl (fun ls hl => ?_)
      refine lv_goto (tgt := 13) hx hb dX2_ordinalAt_33 (by decide) ?_
      exact hk13 _ _ _ _ _ h hW hS (lv_sub hl [2, 3, 1, 0] rfl)
set_option maxHeartbeats 4000000 in
set_option maxRecDepth 100000 in
theorem wk_X2_ordinalAt {n : Nat} {t : Nat} {a1 : Nat} {a2 : Int32} {a3 : Int32} {μ : Mm} {out : Int32} (F : FX G b RX2 cX2_ordinalAt 6 p s m args meth c) (hr : meth.sig.returnType = some .int) (ht : okMz t) (ha1 : okBk a1) (h : sh_X2_ordinalAt n t a1 a2 a3 μ = some out) (hW : WH G b μ H) (hS : va_S (fb b) s.heap H locs) (hl : lv_has ls 6 [(0, .ref (b + t)), (1, .ref (b + a1)), (2, .int a2), (3, .int a3)]) : W p l e ({ frames := 1, cells := 0, slots := 0, locals := 21 } : Room) s m args below meth c H locs 0 0 (MQ below (QW G b μ (some (.int out))) args s 0 0 (fb b)) (F0 m 0 ls []) := by
  have hx := F.1
  have hb := F.2.1
  unfold sh_X2_ordinalAt at h
  refine lv_iload_n hx hb dX2_ordinalAt_0 rfl (lv_at hl 2 rfl) ?_
  refine lv_istore (lv' := [(4, .int a2), (0, .ref (b + t)), (1, .ref (b + a1)), (2, .int a2), (3, .int a3)]) hx hb dX2_ordinalAt_1 hl (by decide) rfl (fun ls hl => ?_)
  refine lv_aload_n hx hb dX2_ordinalAt_3 rfl (lv_at hl 2 rfl) ?_
  refine fl_get0 (v := .ref (b + (a1 + 3))) (ha1).1 F hW 4 (by decide) q_171 rfl rfl dX2_ordinalAt_4 ?_
  refine lv_iload_n hx hb dX2_ordinalAt_7 rfl (lv_at hl 3 rfl) ?_
  obtain ⟨r1, qr1, h⟩ := ob h
  refine k_X5_at F (ha1).2.2.1 qr1 q_425 ⟨Nat.le_of_ble_eq_true rfl, Nat.le_of_ble_eq_true rfl, Nat.le_of_ble_eq_true rfl, Nat.le_of_ble_eq_true rfl⟩ hW hS hl.1 (Nat.le_of_ble_eq_true rfl) dX2_ordinalAt_8 (fun H locs hW hS => ?_)
  refine lv_istore (lv' := [(5, .int r1), (4, .int a2), (0, .ref (b + t)), (1, .ref (b + a1)), (2, .int a2), (3, .int a3)]) hx hb dX2_ordinalAt_11 hl (by decide) rfl (fun ls hl => ?_)
  exact wk_X2_ordinalAt_13 F hr ht ha1 n _ _ _ _ _ h hW hS (lv_sub hl [2, 5, 1, 0] rfl)
set_option maxHeartbeats 4000000 in
set_option maxRecDepth 100000 in
theorem c_X2_ordinalAt {l : Launch} {G : Gt} {b : Nat} {n : Nat} {t : Nat} {a1 : Nat} {a2 : Int32} {a3 : Int32} {μ : Mm} {out : Int32} (ht : okMz t) (ha1 : okBk a1) (h : sh_X2_ordinalAt n t a1 a2 a3 μ = some out) : Met l yX2_ordinalAt (wU (Cond.code yX2_ordinalAt cX2_ordinalAt 6 (some .int))) ({ frames := 1, cells := 0, slots := 0, locals := 21 } : Room) (PcW G b μ [.ref (b + t), .ref (b + a1), .int a2, .int a3]) (QW G b μ (some (.int out))) 0 0 (fb b) :=
  met_of [.ref (b + t), .ref (b + a1), .int a2, .int a3] (by decide) (Nat.le_of_ble_eq_true rfl) (fun F hr hW hl => wk_X2_ordinalAt F hr ht ha1 h hW va_S.rf hl)
set_option maxHeartbeats 4000000 in
set_option maxRecDepth 100000 in
theorem k_X2_ordinalAt {own : String} {nL : Nat} (F : FX G b own cc nL p s m args meth c) {n : Nat} {t : Nat} {a1 : Nat} {a2 : Int32} {a3 : Int32} {μ : Mm} {out : Int32} (ht : okMz t) (ha1 : okBk a1) (h : sh_X2_ordinalAt n t a1 a2 a3 μ = some out) {index : Nat} (hl : Cond.methodLink own index yX2_ordinalAt ∈ TBG) (hR : 1 + 1 ≤ R.frames ∧ 8 + (6 + 11) + 21 ≤ R.locals ∧ cells ≤ R.cells ∧ slots ≤ R.slots) (hW : WH G b μ H) (hS : va_S (fb b) s.heap H locs) (hsz : ls.size = nL) (hrest : (rest.map fun v => v.category).sum ≤ 8) (hdg : decode cc pc = .ok (.invokevirtual index, 3))
    (kk : ∀ (H1 : Heap) (locs1 : List Loc), WH G b μ H1 → va_S (fb b) s.heap H1 locs1 → W p l e R s m args below meth c H1 locs1 cells slots Q (F0 m (pc + 3) ls (.int out :: rest))) : W p l e R s m args below meth c H locs cells slots Q (F0 m pc ls (.int a3 :: .int a2 :: .ref (b + a1) :: .ref (b + t) :: rest)) :=
  f_callV (As := [.ref (b + a1), .int a2, .int a3]) (ci := 2) (c_X2_ordinalAt ht ha1 h) ⟨rfl, rfl⟩ rfl (ky_lt ht.1 (by decide)) (wF_2 ht.1) q_908 q_909 q_10 q_910 rfl ⟨by decide +kernel, by decide +kernel, (show (parseMethodDescriptor yX2_ordinalAt.desc).map (fun d => d.parameters.length) = some 3 by decide +kernel)⟩ F hl hR hW hS hsz hrest rfl hdg kk
set_option maxHeartbeats 4000000 in
set_option maxRecDepth 100000 in
theorem wk_X11_quotientUp {a0 : Int32} {a1 : Int32} {μ : Mm} {out : Int32} (F : FX G b RX11 cX11_quotientUp 2 p s m args meth c) (hr : meth.sig.returnType = some .int) (h : sh_X11_quotientUp a0 a1 μ = some out) (hW : WH G b μ H) (hS : va_S (fb b) s.heap H locs) (hl : lv_has ls 2 [(0, .int a0), (1, .int a1)]) : W p l e ({ frames := 0, cells := 0, slots := 0, locals := 0 } : Room) s m args below meth c H locs 0 0 (MQ below (QW G b μ (some (.int out))) args s 0 0 (fb b)) (F0 m 0 ls []) := by
  have hx := F.1
  have hb := F.2.1
  unfold sh_X11_quotientUp at h
  refine lv_iload_n hx hb dX11_quotientUp_0 rfl (lv_at hl 1 rfl) ?_
  refine lv_if_le (tgt := 14) hx hb dX11_quotientUp_1 (by decide) (fun cc => ?_) (fun cc => ?_)
  · replace h := (if_pos cc).symm.trans h
    refine lv_iconst (v := (0 : Int32)) hx hb dX11_quotientUp_14 (by decide) ?_
    cases h
    exact r_int F hr hW hS dX11_quotientUp_15
  · replace h := (if_neg cc).symm.trans h
    refine lv_iload_n hx hb dX11_quotientUp_4 rfl (lv_at hl 0 rfl) ?_
    refine lv_iload_n hx hb dX11_quotientUp_5 rfl (lv_at hl 1 rfl) ?_
    refine lv_iadd hx hb dX11_quotientUp_6 ?_
    refine lv_iconst (v := (1 : Int32)) hx hb dX11_quotientUp_7 (by decide) ?_
    refine lv_isub hx hb dX11_quotientUp_8 ?_
    refine lv_iload_n hx hb dX11_quotientUp_9 rfl (lv_at hl 1 rfl) ?_
    obtain ⟨v1, qv1, h⟩ := ob h
    obtain ⟨zv1, qv1⟩ := dv_some qv1
    refine lv_idiv hx hb dX11_quotientUp_10 zv1 ?_
    rw [qv1]
    refine lv_goto (tgt := 15) hx hb dX11_quotientUp_11 (by decide) ?_
    cases h
    exact r_int F hr hW hS dX11_quotientUp_15
set_option maxHeartbeats 4000000 in
set_option maxRecDepth 100000 in
theorem c_X11_quotientUp {l : Launch} {G : Gt} {b : Nat} {a0 : Int32} {a1 : Int32} {μ : Mm} {out : Int32} (h : sh_X11_quotientUp a0 a1 μ = some out) : Met l yX11_quotientUp (wU (Cond.code yX11_quotientUp cX11_quotientUp 2 (some .int))) ({ frames := 0, cells := 0, slots := 0, locals := 0 } : Room) (PcW G b μ [.int a0, .int a1]) (QW G b μ (some (.int out))) 0 0 (fb b) :=
  met_of [.int a0, .int a1] (by decide) (Nat.le_of_ble_eq_true rfl) (fun F hr hW hl => wk_X11_quotientUp F hr h hW va_S.rf hl)
set_option maxHeartbeats 4000000 in
set_option maxRecDepth 100000 in
theorem k_X11_quotientUp {nL : Nat} (F : FX G b RX11 cc nL p s m args meth c) {a0 : Int32} {a1 : Int32} {μ : Mm} {out : Int32} (h : sh_X11_quotientUp a0 a1 μ = some out) {index : Nat} (hl : Cond.methodLink RX11 index yX11_quotientUp ∈ TBG) (hR : 0 + 1 ≤ R.frames ∧ 8 + (2 + 11) + 0 ≤ R.locals ∧ cells ≤ R.cells ∧ slots ≤ R.slots) (hW : WH G b μ H) (hS : va_S (fb b) s.heap H locs) (hsz : ls.size = nL) (hrest : (rest.map fun v => v.category).sum ≤ 8) (hdg : decode cc pc = .ok (.invokestatic index, 3))
    (kk : ∀ (H1 : Heap) (locs1 : List Loc), WH G b μ H1 → va_S (fb b) s.heap H1 locs1 → W p l e R s m args below meth c H1 locs1 cells slots Q (F0 m (pc + 3) ls (.int out :: rest))) : W p l e R s m args below meth c H locs cells slots Q (F0 m pc ls (.int a1 :: .int a0 :: rest)) :=
  f_callS (As := [.int a0, .int a1]) (c_X11_quotientUp h) ⟨rfl, rfl⟩ q_482 q_1 q_483 rfl ⟨by decide +kernel, by decide +kernel, (show (parseMethodDescriptor yX11_quotientUp.desc).map (fun d => d.parameters.length) = some 2 by decide +kernel)⟩ F hl hR hW hS hsz hrest rfl hdg kk
set_option maxHeartbeats 4000000 in
set_option maxRecDepth 100000 in
theorem k_X11_quotientUp_n {own : String} {nL : Nat} (F : FX G b own cc nL p s m args meth c) {a0 : Int32} {a1 : Int32} {μ : Mm} {out : Int32} (h : sh_X11_quotientUp a0 a1 μ = some out) {index : Nat} (hl : (own, index, yX11_quotientUp, "ContentsSetter") ∈ nestL) (hR : 0 + 1 ≤ R.frames ∧ 8 + (2 + 11) + 0 ≤ R.locals ∧ cells ≤ R.cells ∧ slots ≤ R.slots) (hW : WH G b μ H) (hS : va_S (fb b) s.heap H locs) (hsz : ls.size = nL) (hrest : (rest.map fun v => v.category).sum ≤ 8) (hdg : decode cc pc = .ok (.invokestatic index, 3))
    (kk : ∀ (H1 : Heap) (locs1 : List Loc), WH G b μ H1 → va_S (fb b) s.heap H1 locs1 → W p l e R s m args below meth c H1 locs1 cells slots Q (F0 m (pc + 3) ls (.int out :: rest))) : W p l e R s m args below meth c H locs cells slots Q (F0 m pc ls (.int a1 :: .int a0 :: rest)) :=
  f_callSN (As := [.int a0, .int a1]) (c_X11_quotientUp h) ⟨rfl, rfl⟩ q_482 q_1 q_483 ⟨by decide +kernel, by decide +kernel, (show (parseMethodDescriptor yX11_quotientUp.desc).map (fun d => d.parameters.length) = some 2 by decide +kernel)⟩ F hl hR hW hS hsz hrest rfl hdg kk
set_option maxHeartbeats 4000000 in
set_option maxRecDepth 100000 in
theorem wk_X3_pagesBeforeChapter_15 {a0 : Int32} {a1 : Int32} {a2 : Int32} {μ : Mm} {s0 : Int32} {out : Int32} (F : FX G b RX3 cX3_pagesBeforeChapter 4 p s m args meth c) (hr : meth.sig.returnType = some .int) (h : sh_X3_pagesBeforeChapter_15 a0 a1 a2 μ s0 = some out) (hW : WH G b μ H) (hS : va_S (fb b) s.heap H locs) (hl : lv_has ls 4 [(0, .int a0), (2, .int a2)]) : W p l e ({ frames := 0, cells := 0, slots := 0, locals := 0 } : Room) s m args below meth c H locs 0 0 (MQ below (QW G b μ (some (.int out))) args s 0 0 (fb b)) (F0 m 15 ls [.int s0]) := by
  have hx := F.1
  have hb := F.2.1
  unfold sh_X3_pagesBeforeChapter_15 at h
  refine lv_istore_n (lv' := [(3, .int s0), (0, .int a0), (2, .int a2)]) hx hb dX3_pagesBeforeChapter_15 rfl hl (by decide) rfl (fun ls hl => ?_)
  refine lv_iload_n hx hb dX3_pagesBeforeChapter_16 rfl (lv_at hl 2 rfl) ?_
  refine lv_if_eq (tgt := 30) hx hb dX3_pagesBeforeChapter_17 (by decide) (fun cc => ?_) (fun cc => ?_)
  · replace h := (if_pos cc).symm.trans h
    refine lv_iload_n hx hb dX3_pagesBeforeChapter_30 rfl (lv_at hl 1 rfl) ?_
    cases h
    exact r_int F hr hW hS dX3_pagesBeforeChapter_31
  · replace h := (if_neg cc).symm.trans h
    refine lv_iload_n hx hb dX3_pagesBeforeChapter_20 rfl (lv_at hl 0 rfl) ?_
    refine lv_if_eq (tgt := 30) hx hb dX3_pagesBeforeChapter_21 (by decide) (fun cc => ?_) (fun cc => ?_)
    · replace h := (if_pos cc).symm.trans h
      refine lv_iload_n hx hb dX3_pagesBeforeChapter_30 rfl (lv_at hl 1 rfl) ?_
      cases h
      exact r_int F hr hW hS dX3_pagesBeforeChapter_31
    · replace h := (if_neg cc).symm.trans h
      refine lv_iload_n hx hb dX3_pagesBeforeChapter_24 rfl (lv_at hl 1 rfl) ?_
      refine lv_iconst (v := (1 : Int32)) hx hb dX3_pagesBeforeChapter_25 (by decide) ?_
      refine lv_iadd hx hb dX3_pagesBeforeChapter_26 ?_
      refine lv_goto (tgt := 31) hx hb dX3_pagesBeforeChapter_27 (by decide) ?_
      cases h
      exact r_int F hr hW hS dX3_pagesBeforeChapter_31
set_option maxHeartbeats 4000000 in
set_option maxRecDepth 100000 in
theorem wk_X3_pagesBeforeChapter {a0 : Int32} {a1 : Int32} {a2 : Int32} {μ : Mm} {out : Int32} (F : FX G b RX3 cX3_pagesBeforeChapter 4 p s m args meth c) (hr : meth.sig.returnType = some .int) (h : sh_X3_pagesBeforeChapter a0 a1 a2 μ = some out) (hW : WH G b μ H) (hS : va_S (fb b) s.heap H locs) (hl : lv_has ls 4 [(0, .int a0), (1, .int a1), (2, .int a2)]) : W p l e ({ frames := 0, cells := 0, slots := 0, locals := 0 } : Room) s m args below meth c H locs 0 0 (MQ below (QW G b μ (some (.int out))) args s 0 0 (fb b)) (F0 m 0 ls []) := by
  have hx := F.1
  have hb := F.2.1
  unfold sh_X3_pagesBeforeChapter at h
  refine lv_iload_n hx hb dX3_pagesBeforeChapter_0 rfl (lv_at hl 1 rfl) ?_
  refine lv_iload_n hx hb dX3_pagesBeforeChapter_1 rfl (lv_at hl 0 rfl) ?_
  refine lv_iadd hx hb dX3_pagesBeforeChapter_2 ?_
  refine lv_iconst (v := (1 : Int32)) hx hb dX3_pagesBeforeChapter_3 (by decide) ?_
  refine lv_iadd hx hb dX3_pagesBeforeChapter_4 ?_
  refine lv_iconst (v := (2 : Int32)) hx hb dX3_pagesBeforeChapter_5 (by decide) ?_
  obtain ⟨v1, qv1, h⟩ := ob h
  obtain ⟨zv1, qv1⟩ := rm_some qv1
  refine lv_irem hx hb dX3_pagesBeforeChapter_6 zv1 ?_
  rw [qv1]
  refine lv_if_ne (tgt := 14) hx hb dX3_pagesBeforeChapter_7 (by decide) (fun cc => ?_) (fun cc => ?_)
  · replace h := (if_neg cc).symm.trans h
    refine lv_iconst (v := (0 : Int32)) hx hb dX3_pagesBeforeChapter_14 (by decide) ?_
    exact wk_X3_pagesBeforeChapter_15 F hr h hW hS (lv_sub hl [0, 2] rfl)
  · replace h := (if_pos cc).symm.trans h
    refine lv_iconst (v := (1 : Int32)) hx hb dX3_pagesBeforeChapter_10 (by decide) ?_
    refine lv_goto (tgt := 15) hx hb dX3_pagesBeforeChapter_11 (by decide) ?_
    exact wk_X3_pagesBeforeChapter_15 F hr h hW hS (lv_sub hl [0, 2] rfl)
set_option maxHeartbeats 4000000 in
set_option maxRecDepth 100000 in
theorem c_X3_pagesBeforeChapter {l : Launch} {G : Gt} {b : Nat} {a0 : Int32} {a1 : Int32} {a2 : Int32} {μ : Mm} {out : Int32} (h : sh_X3_pagesBeforeChapter a0 a1 a2 μ = some out) : Met l yX3_pagesBeforeChapter (wU (Cond.code yX3_pagesBeforeChapter cX3_pagesBeforeChapter 4 (some .int))) ({ frames := 0, cells := 0, slots := 0, locals := 0 } : Room) (PcW G b μ [.int a0, .int a1, .int a2]) (QW G b μ (some (.int out))) 0 0 (fb b) :=
  met_of [.int a0, .int a1, .int a2] (by decide) (Nat.le_of_ble_eq_true rfl) (fun F hr hW hl => wk_X3_pagesBeforeChapter F hr h hW va_S.rf hl)
set_option maxHeartbeats 4000000 in
set_option maxRecDepth 100000 in
theorem k_X3_pagesBeforeChapter {nL : Nat} (F : FX G b RX3 cc nL p s m args meth c) {a0 : Int32} {a1 : Int32} {a2 : Int32} {μ : Mm} {out : Int32} (h : sh_X3_pagesBeforeChapter a0 a1 a2 μ = some out) {index : Nat} (hl : Cond.methodLink RX3 index yX3_pagesBeforeChapter ∈ TBG) (hR : 0 + 1 ≤ R.frames ∧ 8 + (4 + 11) + 0 ≤ R.locals ∧ cells ≤ R.cells ∧ slots ≤ R.slots) (hW : WH G b μ H) (hS : va_S (fb b) s.heap H locs) (hsz : ls.size = nL) (hrest : (rest.map fun v => v.category).sum ≤ 8) (hdg : decode cc pc = .ok (.invokestatic index, 3))
    (kk : ∀ (H1 : Heap) (locs1 : List Loc), WH G b μ H1 → va_S (fb b) s.heap H1 locs1 → W p l e R s m args below meth c H1 locs1 cells slots Q (F0 m (pc + 3) ls (.int out :: rest))) : W p l e R s m args below meth c H locs cells slots Q (F0 m pc ls (.int a2 :: .int a1 :: .int a0 :: rest)) :=
  f_callS (As := [.int a0, .int a1, .int a2]) (c_X3_pagesBeforeChapter h) ⟨rfl, rfl⟩ q_485 q_11 q_486 rfl ⟨by decide +kernel, by decide +kernel, (show (parseMethodDescriptor yX3_pagesBeforeChapter.desc).map (fun d => d.parameters.length) = some 3 by decide +kernel)⟩ F hl hR hW hS hsz hrest rfl hdg kk
set_option maxHeartbeats 4000000 in
set_option maxRecDepth 100000 in
theorem k_X3_pagesBeforeChapter_x {own : String} {nL : Nat} (F : FX G b own cc nL p s m args meth c) {a0 : Int32} {a1 : Int32} {a2 : Int32} {μ : Mm} {out : Int32} (h : sh_X3_pagesBeforeChapter a0 a1 a2 μ = some out) {index : Nat} (hl : Cond.methodLink own index yX3_pagesBeforeChapter ∈ TBG) (hR : 0 + 1 ≤ R.frames ∧ 8 + (4 + 11) + 0 ≤ R.locals ∧ cells ≤ R.cells ∧ slots ≤ R.slots) (hW : WH G b μ H) (hS : va_S (fb b) s.heap H locs) (hsz : ls.size = nL) (hrest : (rest.map fun v => v.category).sum ≤ 8) (hdg : decode cc pc = .ok (.invokestatic index, 3))
    (kk : ∀ (H1 : Heap) (locs1 : List Loc), WH G b μ H1 → va_S (fb b) s.heap H1 locs1 → W p l e R s m args below meth c H1 locs1 cells slots Q (F0 m (pc + 3) ls (.int out :: rest))) : W p l e R s m args below meth c H locs cells slots Q (F0 m pc ls (.int a2 :: .int a1 :: .int a0 :: rest)) :=
  f_callSx (As := [.int a0, .int a1, .int a2]) (c_X3_pagesBeforeChapter h) ⟨rfl, rfl⟩ q_485 q_11 q_486 ⟨by decide +kernel, by decide +kernel, (show (parseMethodDescriptor yX3_pagesBeforeChapter.desc).map (fun d => d.parameters.length) = some 3 by decide +kernel)⟩ F hl hR hW hS hsz hrest rfl hdg kk
set_option maxHeartbeats 4000000 in
set_option maxRecDepth 100000 in
theorem wk_X3_layPart_156 {n : Nat} {t : Nat} {a1 : Nat} {a2 : Int32} {a3 : Int32} {k20 : (Int32 → Int32 → Int32 → Mm → Option (Int32 × Mm))} {x4 : Int32} {x6 : Int32} {s0 : Int32} {s1 : Int32} {μ : Mm} {out : (Int32 × Mm)} (F : FX G b RX3 cX3_layPart 8 p s m args meth c) (hr : meth.sig.returnType = some .int) (ht : okPz t) (ha1 : okBk a1) (hk20 : ∀ (x4 : Int32) (x5 : Int32) (x6 : Int32) (μ : Mm) (H : Heap) (locs : List Loc) (ls : Array Slot), k20 x4 x5 x6 μ = some out → WH G b μ H → va_S (fb b) s.heap H locs → lv_has ls 8 [(0, .ref (b + t)), (1, .ref (b + a1)), (2, .int a2), (3, .int a3), (4, .int x4), (5, .int x5), (6, .int x6)] → W p l e ({ frames := 1, cells := 0, slots := 0, locals := 23 } : Room) s m args below meth c H locs 0 0 (MQ below (QW G b out.2 (some (.int out.1))) args s 0 0 (fb b)) (F0 m 20 ls [])) (h : sh_X3_layPart_156 n t a1 a2 a3 k20 x4 x6 s0 s1 μ = some out) (hW : WH G b μ H) (hS : va_S (fb b) s.heap H locs) (hl : lv_has ls 8 [(0, .ref (b + t)), (1, .ref (b + a1)), (2, .int a2), (3, .int a3), (4, .int x4), (6, .int x6)]) : W p l e ({ frames := 1, cells := 0, slots := 0, locals := 23 } : Room) s m args below meth c H locs 0 0 (MQ below (QW G b out.2 (some (.int out.1))) args s 0 0 (fb b)) (F0 m 156 ls [.int s1, .int s0]) := by
  have hx := F.1
  have hb := F.2.1
  unfold sh_X3_layPart_156 at h
  refine lv_aload_n hx hb dX3_layPart_156 rfl (lv_at hl 1 rfl) ?_
  refine fl_get0 (v := .ref (b + (a1 + 5))) (ha1).1 F hW 5 (by decide) q_177 rfl rfl dX3_layPart_157 ?_
  refine lv_iload hx hb dX3_layPart_160 (lv_at hl 5 rfl) ?_
  obtain ⟨r11, qr11, h⟩ := ob h
  refine k_X5_at F (ha1).2.2.2.1 qr11 q_475 ⟨Nat.le_of_ble_eq_true rfl, Nat.le_of_ble_eq_true rfl, Nat.le_of_ble_eq_true rfl, Nat.le_of_ble_eq_true rfl⟩ hW hS hl.1 (Nat.le_of_ble_eq_true rfl) dX3_layPart_162 (fun H locs hW hS => ?_)
  refine lv_iadd hx hb dX3_layPart_165 ?_
  refine lv_iadd hx hb dX3_layPart_166 ?_
  obtain ⟨v12, ev12⟩ : ∃ y, y = (s0 + (s1 + r11)) := ⟨_, rfl⟩
  have h := nm_at ev12 h
  rw [← ev12]
  refine lv_istore (lv' := [(5, .int v12), (0, .ref (b + t)), (1, .ref (b + a1)), (2, .int a2), (3, .int a3), (4, .int x4), (6, .int x6)]) hx hb dX3_layPart_167 hl (by decide) rfl (fun ls hl => ?_)
  refine lv_iinc (v := (x6 + (1 : Int32))) (lv' := [(6, .int (x6 + (1 : Int32))), (5, .int v12), (0, .ref (b + t)), (1, .ref (b + a1)), (2, .int a2), (3, .int a3), (4, .int x4)]) hx hb dX3_layPart_169 hl (k := 6) rfl rfl (by decide) rfl (fun ls hl => ?_)
  refine lv_goto (tgt := 20) hx hb dX3_layPart_172 (by decide) ?_
  exact hk20 _ _ _ _ _ _ _ h hW hS (lv_sub hl [2, 3, 4, 5, 6, 1, 0] rfl)
set_option maxHeartbeats 4000000 in
set_option maxRecDepth 100000 in
theorem wk_X3_layPart_95 {n : Nat} {t : Nat} {a1 : Nat} {a2 : Int32} {a3 : Int32} {k20 : (Int32 → Int32 → Int32 → Mm → Option (Int32 × Mm))} {x4 : Int32} {x5 : Int32} {x6 : Int32} {μ : Mm} {out : (Int32 × Mm)} (F : FX G b RX3 cX3_layPart 8 p s m args meth c) (hr : meth.sig.returnType = some .int) (ht : okPz t) (ha1 : okBk a1) (hk20 : ∀ (x4 : Int32) (x5 : Int32) (x6 : Int32) (μ : Mm) (H : Heap) (locs : List Loc) (ls : Array Slot), k20 x4 x5 x6 μ = some out → WH G b μ H → va_S (fb b) s.heap H locs → lv_has ls 8 [(0, .ref (b + t)), (1, .ref (b + a1)), (2, .int a2), (3, .int a3), (4, .int x4), (5, .int x5), (6, .int x6)] → W p l e ({ frames := 1, cells := 0, slots := 0, locals := 23 } : Room) s m args below meth c H locs 0 0 (MQ below (QW G b out.2 (some (.int out.1))) args s 0 0 (fb b)) (F0 m 20 ls [])) (h : sh_X3_layPart_95 n t a1 a2 a3 k20 x4 x5 x6 μ = some out) (hW : WH G b μ H) (hS : va_S (fb b) s.heap H locs) (hl : lv_has ls 8 [(0, .ref (b + t)), (1, .ref (b + a1)), (2, .int a2), (3, .int a3), (4, .int x4), (5, .int x5), (6, .int x6)]) : W p l e ({ frames := 1, cells := 0, slots := 0, locals := 23 } : Room) s m args below meth c H locs 0 0 (MQ below (QW G b out.2 (some (.int out.1))) args s 0 0 (fb b)) (F0 m 95 ls []) := by
  have hx := F.1
  have hb := F.2.1
  unfold sh_X3_layPart_95 at h
  refine lv_iload hx hb dX3_layPart_95 (lv_at hl 5 rfl) ?_
  refine lv_iload hx hb dX3_layPart_97 (lv_at hl 4 rfl) ?_
  obtain ⟨r7, qr7, h⟩ := ob h
  refine k_X11_quotient_n F qr7 (by decide +kernel) ⟨Nat.le_of_ble_eq_true rfl, Nat.le_of_ble_eq_true rfl, Nat.le_of_ble_eq_true rfl, Nat.le_of_ble_eq_true rfl⟩ hW hS hl.1 (Nat.le_of_ble_eq_true rfl) dX3_layPart_99 (fun H locs hW hS => ?_)
  refine lv_istore (lv' := [(7, .int r7), (0, .ref (b + t)), (1, .ref (b + a1)), (2, .int a2), (3, .int a3), (4, .int x4), (5, .int x5), (6, .int x6)]) hx hb dX3_layPart_102 hl (by decide) rfl (fun ls hl => ?_)
  refine lv_aload_n hx hb dX3_layPart_104 rfl (lv_at hl 1 rfl) ?_
  refine fl_get3 (v := .ref (b + (t + 1))) (ht).1 F hW 0 (by decide) q_271 rfl rfl dX3_layPart_105 ?_
  refine lv_iload hx hb dX3_layPart_108 (lv_at hl 7 rfl) ?_
  refine lv_iload_n hx hb dX3_layPart_110 rfl (lv_at hl 4 rfl) ?_
  refine lv_iload hx hb dX3_layPart_111 (lv_at hl 0 rfl) ?_
  refine lv_iadd hx hb dX3_layPart_113 ?_
  refine lv_iconst (v := (1 : Int32)) hx hb dX3_layPart_114 (by decide) ?_
  refine lv_iadd hx hb dX3_layPart_115 ?_
  obtain ⟨r8, qr8, h⟩ := ob h
  refine k_X5_put F (ht).2.1 qr8 q_490 ⟨Nat.le_of_ble_eq_true rfl, Nat.le_of_ble_eq_true rfl, Nat.le_of_ble_eq_true rfl, Nat.le_of_ble_eq_true rfl⟩ hW hS hl.1 (Nat.le_of_ble_eq_true rfl) dX3_layPart_116 (fun H locs hW hS => ?_)
  refine lv_aload_n hx hb dX3_layPart_119 rfl (lv_at hl 1 rfl) ?_
  refine fl_get3 (v := .ref (b + (t + 5))) (ht).1 F hW 2 (by decide) q_276 rfl rfl dX3_layPart_120 ?_
  refine lv_iload hx hb dX3_layPart_123 (lv_at hl 7 rfl) ?_
  refine lv_iload hx hb dX3_layPart_125 (lv_at hl 6 rfl) ?_
  refine lv_iload hx hb dX3_layPart_127 (lv_at hl 5 rfl) ?_
  refine lv_iload hx hb dX3_layPart_129 (lv_at hl 0 rfl) ?_
  refine lv_imul hx hb dX3_layPart_131 ?_
  refine lv_isub hx hb dX3_layPart_132 ?_
  obtain ⟨r9, qr9, h⟩ := ob h
  refine k_X5_put F (ht).2.2.2.1 qr9 q_490 ⟨Nat.le_of_ble_eq_true rfl, Nat.le_of_ble_eq_true rfl, Nat.le_of_ble_eq_true rfl, Nat.le_of_ble_eq_true rfl⟩ hW hS hl.1 (Nat.le_of_ble_eq_true rfl) dX3_layPart_133 (fun H locs hW hS => ?_)
  refine lv_iload hx hb dX3_layPart_136 (lv_at hl 6 rfl) ?_
  refine lv_aload_n hx hb dX3_layPart_138 rfl (lv_at hl 2 rfl) ?_
  refine fl_get0 (v := .ref (b + (a1 + 3))) (ha1).1 F hW 4 (by decide) q_172 rfl rfl dX3_layPart_139 ?_
  refine lv_iload hx hb dX3_layPart_142 (lv_at hl 7 rfl) ?_
  obtain ⟨r10, qr10, h⟩ := ob h
  refine k_X5_at F (ha1).2.2.1 qr10 q_475 ⟨Nat.le_of_ble_eq_true rfl, Nat.le_of_ble_eq_true rfl, Nat.le_of_ble_eq_true rfl, Nat.le_of_ble_eq_true rfl⟩ hW hS hl.1 (Nat.le_of_ble_eq_true rfl) dX3_layPart_144 (fun H locs hW hS => ?_)
  refine lv_iconst (v := (1 : Int32)) hx hb dX3_layPart_147 (by decide) ?_
  refine lv_icmp_ne (tgt := 155) hx hb dX3_layPart_148 (by decide) (fun cc => ?_) (fun cc => ?_)
  · replace h := (if_neg cc).symm.trans h
    refine lv_iconst (v := (1 : Int32)) hx hb dX3_layPart_155 (by decide) ?_
    exact wk_X3_layPart_156 F hr ht ha1 hk20 h hW hS (lv_sub hl [1, 2, 3, 4, 5, 7] rfl)
  · replace h := (if_pos cc).symm.trans h
    refine lv_iconst (v := (3 : Int32)) hx hb dX3_layPart_151 (by decide) ?_
    refine lv_goto (tgt := 156) hx hb dX3_layPart_152 (by decide) ?_
    exact wk_X3_layPart_156 F hr ht ha1 hk20 h hW hS (lv_sub hl [1, 2, 3, 4, 5, 7] rfl)
set_option maxHeartbeats 4000000 in
set_option maxRecDepth 100000 in
theorem wk_X3_layPart_20 {n : Nat} {t : Nat} {a1 : Nat} {a2 : Int32} {a3 : Int32} {out : (Int32 × Mm)} (F : FX G b RX3 cX3_layPart 8 p s m args meth c) (hr : meth.sig.returnType = some .int) (ht : okPz t) (ha1 : okBk a1) : ∀ (f : Nat) (x4 : Int32) (x5 : Int32) (x6 : Int32) (μ : Mm) (H : Heap) (locs : List Loc) (ls : Array Slot), sh_X3_layPart_20 n t a1 a2 a3 f x4 x5 x6 μ = some out → WH G b μ H → va_S (fb b) s.heap H locs → lv_has ls 8 [(0, .ref (b + t)), (1, .ref (b + a1)), (2, .int a2), (3, .int a3), (4, .int x4), (5, .int x5), (6, .int x6)] → W p l e ({ frames := 1, cells := 0, slots := 0, locals := 23 } : Room) s m args below meth c H locs 0 0 (MQ below (QW G b out.2 (some (.int out.1))) args s 0 0 (fb b)) (F0 m 20 ls []) := by
  have hx := F.1
  have hb := F.2.1
  intro f
  induction f with
  | zero =>
    intro _ _ _ _ _ _ _ h
    rw [sh_X3_layPart_20] at h
    cases h
  | succ f ih =>
    intro x4 x5 x6 μ H locs ls h hW hS hl
    rw [sh_X3_layPart_20] at h
    have hk20 := ih
    refine lv_iload hx hb dX3_layPart_20 (lv_at hl 6 rfl) ?_
    refine lv_aload_n hx hb dX3_layPart_22 rfl (lv_at hl 1 rfl) ?_
    refine lv_iload_n hx hb dX3_layPart_23 rfl (lv_at hl 2 rfl) ?_
    obtain ⟨r3, qr3, h⟩ := ob h
    refine k_X0_partEnd F ha1 qr3 q_477 ⟨Nat.le_of_ble_eq_true rfl, Nat.le_of_ble_eq_true rfl, Nat.le_of_ble_eq_true rfl, Nat.le_of_ble_eq_true rfl⟩ hW hS hl.1 (Nat.le_of_ble_eq_true rfl) dX3_layPart_24 (fun H locs hW hS => ?_)
    refine lv_icmp_ge (tgt := 175) hx hb dX3_layPart_27 (by decide) (fun cc => ?_) (fun cc => ?_)
    · replace h := (if_pos cc).symm.trans h
      refine lv_iload hx hb dX3_layPart_175 (lv_at hl 5 rfl) ?_
      refine lv_iload hx hb dX3_layPart_177 (lv_at hl 4 rfl) ?_
      obtain ⟨r4, qr4, h⟩ := ob h
      refine k_X11_quotientUp_n F qr4 (by decide +kernel) ⟨Nat.le_of_ble_eq_true rfl, Nat.le_of_ble_eq_true rfl, Nat.le_of_ble_eq_true rfl, Nat.le_of_ble_eq_true rfl⟩ hW hS hl.1 (Nat.le_of_ble_eq_true rfl) dX3_layPart_179 (fun H locs hW hS => ?_)
      cases h
      exact r_int F hr hW hS dX3_layPart_182
    · replace h := (if_neg cc).symm.trans h
      refine lv_aload_n hx hb dX3_layPart_30 rfl (lv_at hl 1 rfl) ?_
      refine fl_get0 (v := .ref (b + (a1 + 3))) (ha1).1 F hW 4 (by decide) q_172 rfl rfl dX3_layPart_31 ?_
      refine lv_iload hx hb dX3_layPart_34 (lv_at hl 6 rfl) ?_
      obtain ⟨r5, qr5, h⟩ := ob h
      refine k_X5_at F (ha1).2.2.1 qr5 q_475 ⟨Nat.le_of_ble_eq_true rfl, Nat.le_of_ble_eq_true rfl, Nat.le_of_ble_eq_true rfl, Nat.le_of_ble_eq_true rfl⟩ hW hS hl.1 (Nat.le_of_ble_eq_true rfl) dX3_layPart_36 (fun H locs hW hS => ?_)
      refine lv_iconst (v := (1 : Int32)) hx hb dX3_layPart_39 (by decide) ?_
      refine lv_icmp_ne (tgt := 66) hx hb dX3_layPart_40 (by decide) (fun cc => ?_) (fun cc => ?_)
      · replace h := (if_neg cc).symm.trans h
        refine lv_iload hx hb dX3_layPart_66 (lv_at hl 4 rfl) ?_
        refine lv_iload hx hb dX3_layPart_68 (lv_at hl 5 rfl) ?_
        refine lv_iload hx hb dX3_layPart_70 (lv_at hl 4 rfl) ?_
        obtain ⟨r6, qr6, h⟩ := ob h
        refine k_X11_quotientUp_n F qr6 (by decide +kernel) ⟨Nat.le_of_ble_eq_true rfl, Nat.le_of_ble_eq_true rfl, Nat.le_of_ble_eq_true rfl, Nat.le_of_ble_eq_true rfl⟩ hW hS hl.1 (Nat.le_of_ble_eq_true rfl) dX3_layPart_72 (fun H locs hW hS => ?_)
        refine lv_imul hx hb dX3_layPart_75 ?_
        refine lv_iload hx hb dX3_layPart_76 (lv_at hl 5 rfl) ?_
        refine lv_isub hx hb dX3_layPart_78 ?_
        refine lv_iconst (v := (2 : Int32)) hx hb dX3_layPart_79 (by decide) ?_
        refine lv_icmp_ge (tgt := 95) hx hb dX3_layPart_80 (by decide) (fun cc => ?_) (fun cc => ?_)
        · replace h := (if_pos cc).symm.trans h
          exact wk_X3_layPart_95 F hr ht ha1 hk20 h hW hS (lv_sub hl [0, 1, 2, 3, 4, 5, 6] rfl)
        · replace h := (if_neg cc).symm.trans h
          refine lv_iload hx hb dX3_layPart_83 (lv_at hl 4 rfl) ?_
          refine lv_iload hx hb dX3_layPart_85 (lv_at hl 5 rfl) ?_
          refine lv_iload hx hb dX3_layPart_87 (lv_at hl 4 rfl) ?_
          obtain ⟨r13, qr13, h⟩ := ob h
          refine k_X11_quotientUp_n F qr13 (by decide +kernel) ⟨Nat.le_of_ble_eq_true rfl, Nat.le_of_ble_eq_true rfl, Nat.le_of_ble_eq_true rfl, Nat.le_of_ble_eq_true rfl⟩ hW hS hl.1 (Nat.le_of_ble_eq_true rfl) dX3_layPart_89 (fun H locs hW hS => ?_)
          refine lv_imul hx hb dX3_layPart_92 ?_
          obtain ⟨v14, ev14⟩ : ∃ y, y = (x4 * r13) := ⟨_, rfl⟩
          have h := nm_at ev14 h
          rw [← ev14]
          refine lv_istore (lv' := [(5, .int v14), (0, .ref (b + t)), (1, .ref (b + a1)), (2, .int a2), (3, .int a3), (4, .int x4), (6, .int x6)]) hx hb dX3_layPart_93 hl (by decide) rfl (fun ls hl => ?_)
          exact wk_X3_layPart_95 F hr ht ha1 hk20 h hW hS (lv_sub hl [1, 2, 3, 4, 5, 0, 6] rfl)
      · replace h := (if_pos cc).symm.trans h
        refine lv_iload hx hb dX3_layPart_43 (lv_at hl 4 rfl) ?_
        refine lv_iload hx hb dX3_layPart_45 (lv_at hl 5 rfl) ?_
        refine lv_iload hx hb dX3_layPart_47 (lv_at hl 4 rfl) ?_
        obtain ⟨r15, qr15, h⟩ := ob h
        refine k_X11_quotientUp_n F qr15 (by decide +kernel) ⟨Nat.le_of_ble_eq_true rfl, Nat.le_of_ble_eq_true rfl, Nat.le_of_ble_eq_true rfl, Nat.le_of_ble_eq_true rfl⟩ hW hS hl.1 (Nat.le_of_ble_eq_true rfl) dX3_layPart_49 (fun H locs hW hS => ?_)
        refine lv_iload_n hx hb dX3_layPart_52 rfl (lv_at hl 3 rfl) ?_
        refine lv_aload_n hx hb dX3_layPart_53 rfl (lv_at hl 1 rfl) ?_
        refine fl_get0 (v := .int (μ.1 a1 1)) (ha1).1 F hW 1 (by decide) q_154 rfl rfl dX3_layPart_54 ?_
        obtain ⟨r16, qr16, h⟩ := ob h
        refine k_X3_pagesBeforeChapter F qr16 q_484 ⟨Nat.le_of_ble_eq_true rfl, Nat.le_of_ble_eq_true rfl, Nat.le_of_ble_eq_true rfl, Nat.le_of_ble_eq_true rfl⟩ hW hS hl.1 (Nat.le_of_ble_eq_true rfl) dX3_layPart_57 (fun H locs hW hS => ?_)
        refine lv_imul hx hb dX3_layPart_60 ?_
        obtain ⟨v17, ev17⟩ : ∃ y, y = (x4 * r16) := ⟨_, rfl⟩
        have h := nm_at ev17 h
        rw [← ev17]
        refine lv_istore (lv' := [(5, .int v17), (0, .ref (b + t)), (1, .ref (b + a1)), (2, .int a2), (3, .int a3), (4, .int x4), (6, .int x6)]) hx hb dX3_layPart_61 hl (by decide) rfl (fun ls hl => ?_)
        refine lv_goto (tgt := 95) hx hb dX3_layPart_63 (by decide) ?_
        exact wk_X3_layPart_95 F hr ht ha1 hk20 h hW hS (lv_sub hl [1, 2, 3, 4, 5, 0, 6] rfl)
set_option maxHeartbeats 4000000 in
set_option maxRecDepth 100000 in
theorem wk_X3_layPart {n : Nat} {t : Nat} {a1 : Nat} {a2 : Int32} {a3 : Int32} {μ : Mm} {out : (Int32 × Mm)} (F : FX G b RX3 cX3_layPart 8 p s m args meth c) (hr : meth.sig.returnType = some .int) (ht : okPz t) (ha1 : okBk a1) (h : sh_X3_layPart n t a1 a2 a3 μ = some out) (hW : WH G b μ H) (hS : va_S (fb b) s.heap H locs) (hl : lv_has ls 8 [(0, .ref (b + t)), (1, .ref (b + a1)), (2, .int a2), (3, .int a3)]) : W p l e ({ frames := 1, cells := 0, slots := 0, locals := 23 } : Room) s m args below meth c H locs 0 0 (MQ below (QW G b out.2 (some (.int out.1))) args s 0 0 (fb b)) (F0 m 0 ls []) := by
  have hx := F.1
  have hb := F.2.1
  unfold sh_X3_layPart at h
  refine lv_aload_n hx hb dX3_layPart_0 rfl (lv_at hl 1 rfl) ?_
  refine fl_get0 (v := .ref (b + (a1 + 1))) (ha1).1 F hW 0 (by decide) q_150 rfl rfl dX3_layPart_1 ?_
  refine lv_iconst (v := (2 : Int32)) hx hb dX3_layPart_4 (by decide) ?_
  obtain ⟨r1, qr1, h⟩ := ob h
  refine k_X5_at F (ha1).2.1 qr1 q_475 ⟨Nat.le_of_ble_eq_true rfl, Nat.le_of_ble_eq_true rfl, Nat.le_of_ble_eq_true rfl, Nat.le_of_ble_eq_true rfl⟩ hW hS hl.1 (Nat.le_of_ble_eq_true rfl) dX3_layPart_5 (fun H locs hW hS => ?_)
  refine lv_istore (lv' := [(4, .int r1), (0, .ref (b + t)), (1, .ref (b + a1)), (2, .int a2), (3, .int a3)]) hx hb dX3_layPart_8 hl (by decide) rfl (fun ls hl => ?_)
  refine lv_iconst (v := (0 : Int32)) hx hb dX3_layPart_10 (by decide) ?_
  refine lv_istore (lv' := [(5, .int (0 : Int32)), (4, .int r1), (0, .ref (b + t)), (1, .ref (b + a1)), (2, .int a2), (3, .int a3)]) hx hb dX3_layPart_11 hl (by decide) rfl (fun ls hl => ?_)
  refine lv_aload_n hx hb dX3_layPart_13 rfl (lv_at hl 3 rfl) ?_
  refine lv_iload_n hx hb dX3_layPart_14 rfl (lv_at hl 4 rfl) ?_
  obtain ⟨r2, qr2, h⟩ := ob h
  refine k_X0_partBegin F ha1 qr2 q_476 ⟨Nat.le_of_ble_eq_true rfl, Nat.le_of_ble_eq_true rfl, Nat.le_of_ble_eq_true rfl, Nat.le_of_ble_eq_true rfl⟩ hW hS hl.1 (Nat.le_of_ble_eq_true rfl) dX3_layPart_15 (fun H locs hW hS => ?_)
  refine lv_istore (lv' := [(6, .int r2), (5, .int (0 : Int32)), (4, .int r1), (0, .ref (b + t)), (1, .ref (b + a1)), (2, .int a2), (3, .int a3)]) hx hb dX3_layPart_18 hl (by decide) rfl (fun ls hl => ?_)
  exact wk_X3_layPart_20 F hr ht ha1 n _ _ _ _ _ _ _ h hW hS (lv_sub hl [3, 4, 5, 6, 2, 1, 0] rfl)
set_option maxHeartbeats 4000000 in
set_option maxRecDepth 100000 in
theorem c_X3_layPart {l : Launch} {G : Gt} {b : Nat} {n : Nat} {t : Nat} {a1 : Nat} {a2 : Int32} {a3 : Int32} {μ : Mm} {out : (Int32 × Mm)} (ht : okPz t) (ha1 : okBk a1) (h : sh_X3_layPart n t a1 a2 a3 μ = some out) : Met l yX3_layPart (wU (Cond.code yX3_layPart cX3_layPart 8 (some .int))) ({ frames := 1, cells := 0, slots := 0, locals := 23 } : Room) (PcW G b μ [.ref (b + t), .ref (b + a1), .int a2, .int a3]) (QW G b out.2 (some (.int out.1))) 0 0 (fb b) :=
  met_of [.ref (b + t), .ref (b + a1), .int a2, .int a3] (by decide) (Nat.le_of_ble_eq_true rfl) (fun F hr hW hl => wk_X3_layPart F hr ht ha1 h hW va_S.rf hl)
set_option maxHeartbeats 4000000 in
set_option maxRecDepth 100000 in
theorem k_X3_layPart {own : String} {nL : Nat} (F : FX G b own cc nL p s m args meth c) {n : Nat} {t : Nat} {a1 : Nat} {a2 : Int32} {a3 : Int32} {μ : Mm} {out : (Int32 × Mm)} (ht : okPz t) (ha1 : okBk a1) (h : sh_X3_layPart n t a1 a2 a3 μ = some out) {index : Nat} (hl : Cond.methodLink own index yX3_layPart ∈ TBG) (hR : 1 + 1 ≤ R.frames ∧ 8 + (8 + 11) + 23 ≤ R.locals ∧ cells ≤ R.cells ∧ slots ≤ R.slots) (hW : WH G b μ H) (hS : va_S (fb b) s.heap H locs) (hsz : ls.size = nL) (hrest : (rest.map fun v => v.category).sum ≤ 8) (hdg : decode cc pc = .ok (.invokevirtual index, 3))
    (kk : ∀ (H1 : Heap) (locs1 : List Loc), WH G b out.2 H1 → va_S (fb b) s.heap H1 locs1 → W p l e R s m args below meth c H1 locs1 cells slots Q (F0 m (pc + 3) ls (.int out.1 :: rest))) : W p l e R s m args below meth c H locs cells slots Q (F0 m pc ls (.int a3 :: .int a2 :: .ref (b + a1) :: .ref (b + t) :: rest)) :=
  f_callV (As := [.ref (b + a1), .int a2, .int a3]) (ci := 3) (c_X3_layPart ht ha1 h) ⟨rfl, rfl⟩ rfl (ky_lt ht.1 (by decide)) (wF_3 ht.1) q_473 qp_3 q_11 q_474 rfl ⟨by decide +kernel, by decide +kernel, (show (parseMethodDescriptor yX3_layPart.desc).map (fun d => d.parameters.length) = some 3 by decide +kernel)⟩ F hl hR hW hS hsz hrest rfl hdg kk
set_option maxHeartbeats 4000000 in
set_option maxRecDepth 100000 in
theorem wk_X11_romanFigureWidth {a0 : Int32} {a1 : Int32} {a2 : Int32} {a3 : Int32} {μ : Mm} {out : Int32} (F : FX G b RX11 cX11_romanFigureWidth 4 p s m args meth c) (hr : meth.sig.returnType = some .int) (h : sh_X11_romanFigureWidth a0 a1 a2 a3 μ = some out) (hW : WH G b μ H) (hS : va_S (fb b) s.heap H locs) (hl : lv_has ls 4 [(0, .int a0), (1, .int a1), (2, .int a2), (3, .int a3)]) : W p l e ({ frames := 0, cells := 0, slots := 0, locals := 0 } : Room) s m args below meth c H locs 0 0 (MQ below (QW G b μ (some (.int out))) args s 0 0 (fb b)) (F0 m 0 ls []) := by
  have hx := F.1
  have hb := F.2.1
  unfold sh_X11_romanFigureWidth at h
  refine lv_iload_n hx hb dX11_romanFigureWidth_0 rfl (lv_at hl 0 rfl) ?_
  refine lv_bipush (v := (9 : Int32)) hx hb dX11_romanFigureWidth_1 (by decide) ?_
  refine lv_icmp_ne (tgt := 10) hx hb dX11_romanFigureWidth_3 (by decide) (fun cc => ?_) (fun cc => ?_)
  · replace h := (if_neg cc).symm.trans h
    refine lv_iload_n hx hb dX11_romanFigureWidth_10 rfl (lv_at hl 0 rfl) ?_
    refine lv_iconst (v := (4 : Int32)) hx hb dX11_romanFigureWidth_11 (by decide) ?_
    refine lv_icmp_ne (tgt := 19) hx hb dX11_romanFigureWidth_12 (by decide) (fun cc => ?_) (fun cc => ?_)
    · replace h := (if_neg cc).symm.trans h
      refine lv_iload_n hx hb dX11_romanFigureWidth_19 rfl (lv_at hl 0 rfl) ?_
      refine lv_iconst (v := (5 : Int32)) hx hb dX11_romanFigureWidth_20 (by decide) ?_
      refine lv_icmp_lt (tgt := 28) hx hb dX11_romanFigureWidth_21 (by decide) (fun cc => ?_) (fun cc => ?_)
      · replace h := (if_pos cc).symm.trans h
        refine lv_iconst (v := (0 : Int32)) hx hb dX11_romanFigureWidth_28 (by decide) ?_
        refine lv_iload_n hx hb dX11_romanFigureWidth_29 rfl (lv_at hl 0 rfl) ?_
        refine lv_iconst (v := (5 : Int32)) hx hb dX11_romanFigureWidth_30 (by decide) ?_
        obtain ⟨v1, qv1, h⟩ := ob h
        obtain ⟨zv1, qv1⟩ := rm_some qv1
        refine lv_irem hx hb dX11_romanFigureWidth_31 zv1 ?_
        rw [qv1]
        refine lv_iload_n hx hb dX11_romanFigureWidth_32 rfl (lv_at hl 1 rfl) ?_
        refine lv_imul hx hb dX11_romanFigureWidth_33 ?_
        refine lv_iadd hx hb dX11_romanFigureWidth_34 ?_
        cases h
        exact r_int F hr hW hS dX11_romanFigureWidth_35
      · replace h := (if_neg cc).symm.trans h
        refine lv_iload_n hx hb dX11_romanFigureWidth_24 rfl (lv_at hl 2 rfl) ?_
        refine lv_goto (tgt := 29) hx hb dX11_romanFigureWidth_25 (by decide) ?_
        refine lv_iload_n hx hb dX11_romanFigureWidth_29 rfl (lv_at hl 0 rfl) ?_
        refine lv_iconst (v := (5 : Int32)) hx hb dX11_romanFigureWidth_30 (by decide) ?_
        obtain ⟨v2, qv2, h⟩ := ob h
        obtain ⟨zv2, qv2⟩ := rm_some qv2
        refine lv_irem hx hb dX11_romanFigureWidth_31 zv2 ?_
        rw [qv2]
        refine lv_iload_n hx hb dX11_romanFigureWidth_32 rfl (lv_at hl 1 rfl) ?_
        refine lv_imul hx hb dX11_romanFigureWidth_33 ?_
        refine lv_iadd hx hb dX11_romanFigureWidth_34 ?_
        cases h
        exact r_int F hr hW hS dX11_romanFigureWidth_35
    · replace h := (if_pos cc).symm.trans h
      refine lv_iload_n hx hb dX11_romanFigureWidth_15 rfl (lv_at hl 1 rfl) ?_
      refine lv_iload_n hx hb dX11_romanFigureWidth_16 rfl (lv_at hl 2 rfl) ?_
      refine lv_iadd hx hb dX11_romanFigureWidth_17 ?_
      cases h
      exact r_int F hr hW hS dX11_romanFigureWidth_18
  · replace h := (if_pos cc).symm.trans h
    refine lv_iload_n hx hb dX11_romanFigureWidth_6 rfl (lv_at hl 1 rfl) ?_
    refine lv_iload_n hx hb dX11_romanFigureWidth_7 rfl (lv_at hl 3 rfl) ?_
    refine lv_iadd hx hb dX11_romanFigureWidth_8 ?_
    cases h
    exact r_int F hr hW hS dX11_romanFigureWidth_9
set_option maxHeartbeats 4000000 in
set_option maxRecDepth 100000 in
theorem c_X11_romanFigureWidth {l : Launch} {G : Gt} {b : Nat} {a0 : Int32} {a1 : Int32} {a2 : Int32} {a3 : Int32} {μ : Mm} {out : Int32} (h : sh_X11_romanFigureWidth a0 a1 a2 a3 μ = some out) : Met l yX11_romanFigureWidth (wU (Cond.code yX11_romanFigureWidth cX11_romanFigureWidth 4 (some .int))) ({ frames := 0, cells := 0, slots := 0, locals := 0 } : Room) (PcW G b μ [.int a0, .int a1, .int a2, .int a3]) (QW G b μ (some (.int out))) 0 0 (fb b) :=
  met_of [.int a0, .int a1, .int a2, .int a3] (by decide) (Nat.le_of_ble_eq_true rfl) (fun F hr hW hl => wk_X11_romanFigureWidth F hr h hW va_S.rf hl)
set_option maxHeartbeats 4000000 in
set_option maxRecDepth 100000 in
theorem k_X11_romanFigureWidth {nL : Nat} (F : FX G b RX11 cc nL p s m args meth c) {a0 : Int32} {a1 : Int32} {a2 : Int32} {a3 : Int32} {μ : Mm} {out : Int32} (h : sh_X11_romanFigureWidth a0 a1 a2 a3 μ = some out) {index : Nat} (hl : Cond.methodLink RX11 index yX11_romanFigureWidth ∈ TBG) (hR : 0 + 1 ≤ R.frames ∧ 8 + (4 + 11) + 0 ≤ R.locals ∧ cells ≤ R.cells ∧ slots ≤ R.slots) (hW : WH G b μ H) (hS : va_S (fb b) s.heap H locs) (hsz : ls.size = nL) (hrest : (rest.map fun v => v.category).sum ≤ 8) (hdg : decode cc pc = .ok (.invokestatic index, 3))
    (kk : ∀ (H1 : Heap) (locs1 : List Loc), WH G b μ H1 → va_S (fb b) s.heap H1 locs1 → W p l e R s m args below meth c H1 locs1 cells slots Q (F0 m (pc + 3) ls (.int out :: rest))) : W p l e R s m args below meth c H locs cells slots Q (F0 m pc ls (.int a3 :: .int a2 :: .int a1 :: .int a0 :: rest)) :=
  f_callS (As := [.int a0, .int a1, .int a2, .int a3]) (c_X11_romanFigureWidth h) ⟨rfl, rfl⟩ q_496 q_1 q_497 rfl ⟨by decide +kernel, by decide +kernel, (show (parseMethodDescriptor yX11_romanFigureWidth.desc).map (fun d => d.parameters.length) = some 4 by decide +kernel)⟩ F hl hR hW hS hsz hrest rfl hdg kk
set_option maxHeartbeats 4000000 in
set_option maxRecDepth 100000 in
theorem wk_X11_romanWidth {a0 : Int32} {μ : Mm} {out : Int32} (F : FX G b RX11 cX11_romanWidth 4 p s m args meth c) (hr : meth.sig.returnType = some .int) (h : sh_X11_romanWidth a0 μ = some out) (hW : WH G b μ H) (hS : va_S (fb b) s.heap H locs) (hl : lv_has ls 4 [(0, .int a0)]) : W p l e ({ frames := 1, cells := 0, slots := 0, locals := 23 } : Room) s m args below meth c H locs 0 0 (MQ below (QW G b μ (some (.int out))) args s 0 0 (fb b)) (F0 m 0 ls []) := by
  have hx := F.1
  have hb := F.2.1
  unfold sh_X11_romanWidth at h
  refine lv_iload_n hx hb dX11_romanWidth_0 rfl (lv_at hl 0 rfl) ?_
  refine lv_bipush (v := (100 : Int32)) hx hb dX11_romanWidth_1 (by decide) ?_
  obtain ⟨v1, qv1, h⟩ := ob h
  obtain ⟨zv1, qv1⟩ := dv_some qv1
  refine lv_idiv hx hb dX11_romanWidth_3 zv1 ?_
  rw [qv1]
  refine lv_bipush (v := (10 : Int32)) hx hb dX11_romanWidth_4 (by decide) ?_
  obtain ⟨v2, qv2, h⟩ := ob h
  obtain ⟨zv2, qv2⟩ := rm_some qv2
  refine lv_irem hx hb dX11_romanWidth_6 zv2 ?_
  rw [qv2]
  refine lv_bipush (v := (99 : Int32)) hx hb dX11_romanWidth_7 (by decide) ?_
  obtain ⟨r3, qr3, h⟩ := ob h
  refine k_X11_signWidth F qr3 q_444 ⟨Nat.le_of_ble_eq_true rfl, Nat.le_of_ble_eq_true rfl, Nat.le_of_ble_eq_true rfl, Nat.le_of_ble_eq_true rfl⟩ hW hS hl.1 (Nat.le_of_ble_eq_true rfl) dX11_romanWidth_9 (fun H locs hW hS => ?_)
  refine lv_bipush (v := (100 : Int32)) hx hb dX11_romanWidth_12 (by decide) ?_
  obtain ⟨r4, qr4, h⟩ := ob h
  refine k_X11_signWidth F qr4 q_444 ⟨Nat.le_of_ble_eq_true rfl, Nat.le_of_ble_eq_true rfl, Nat.le_of_ble_eq_true rfl, Nat.le_of_ble_eq_true rfl⟩ hW hS hl.1 (Nat.le_of_ble_eq_true rfl) dX11_romanWidth_14 (fun H locs hW hS => ?_)
  refine lv_bipush (v := (109 : Int32)) hx hb dX11_romanWidth_17 (by decide) ?_
  obtain ⟨r5, qr5, h⟩ := ob h
  refine k_X11_signWidth F qr5 q_444 ⟨Nat.le_of_ble_eq_true rfl, Nat.le_of_ble_eq_true rfl, Nat.le_of_ble_eq_true rfl, Nat.le_of_ble_eq_true rfl⟩ hW hS hl.1 (Nat.le_of_ble_eq_true rfl) dX11_romanWidth_19 (fun H locs hW hS => ?_)
  obtain ⟨r6, qr6, h⟩ := ob h
  refine k_X11_romanFigureWidth F qr6 q_495 ⟨Nat.le_of_ble_eq_true rfl, Nat.le_of_ble_eq_true rfl, Nat.le_of_ble_eq_true rfl, Nat.le_of_ble_eq_true rfl⟩ hW hS hl.1 (Nat.le_of_ble_eq_true rfl) dX11_romanWidth_22 (fun H locs hW hS => ?_)
  refine lv_istore_n (lv' := [(1, .int r6), (0, .int a0)]) hx hb dX11_romanWidth_25 rfl hl (by decide) rfl (fun ls hl => ?_)
  refine lv_iload_n hx hb dX11_romanWidth_26 rfl (lv_at hl 1 rfl) ?_
  refine lv_bipush (v := (10 : Int32)) hx hb dX11_romanWidth_27 (by decide) ?_
  obtain ⟨v7, qv7, h⟩ := ob h
  obtain ⟨zv7, qv7⟩ := dv_some qv7
  refine lv_idiv hx hb dX11_romanWidth_29 zv7 ?_
  rw [qv7]
  refine lv_bipush (v := (10 : Int32)) hx hb dX11_romanWidth_30 (by decide) ?_
  obtain ⟨v8, qv8, h⟩ := ob h
  obtain ⟨zv8, qv8⟩ := rm_some qv8
  refine lv_irem hx hb dX11_romanWidth_32 zv8 ?_
  rw [qv8]
  refine lv_bipush (v := (120 : Int32)) hx hb dX11_romanWidth_33 (by decide) ?_
  obtain ⟨r9, qr9, h⟩ := ob h
  refine k_X11_signWidth F qr9 q_444 ⟨Nat.le_of_ble_eq_true rfl, Nat.le_of_ble_eq_true rfl, Nat.le_of_ble_eq_true rfl, Nat.le_of_ble_eq_true rfl⟩ hW hS hl.1 (Nat.le_of_ble_eq_true rfl) dX11_romanWidth_35 (fun H locs hW hS => ?_)
  refine lv_bipush (v := (108 : Int32)) hx hb dX11_romanWidth_38 (by decide) ?_
  obtain ⟨r10, qr10, h⟩ := ob h
  refine k_X11_signWidth F qr10 q_444 ⟨Nat.le_of_ble_eq_true rfl, Nat.le_of_ble_eq_true rfl, Nat.le_of_ble_eq_true rfl, Nat.le_of_ble_eq_true rfl⟩ hW hS hl.1 (Nat.le_of_ble_eq_true rfl) dX11_romanWidth_40 (fun H locs hW hS => ?_)
  refine lv_bipush (v := (99 : Int32)) hx hb dX11_romanWidth_43 (by decide) ?_
  obtain ⟨r11, qr11, h⟩ := ob h
  refine k_X11_signWidth F qr11 q_444 ⟨Nat.le_of_ble_eq_true rfl, Nat.le_of_ble_eq_true rfl, Nat.le_of_ble_eq_true rfl, Nat.le_of_ble_eq_true rfl⟩ hW hS hl.1 (Nat.le_of_ble_eq_true rfl) dX11_romanWidth_45 (fun H locs hW hS => ?_)
  obtain ⟨r12, qr12, h⟩ := ob h
  refine k_X11_romanFigureWidth F qr12 q_495 ⟨Nat.le_of_ble_eq_true rfl, Nat.le_of_ble_eq_true rfl, Nat.le_of_ble_eq_true rfl, Nat.le_of_ble_eq_true rfl⟩ hW hS hl.1 (Nat.le_of_ble_eq_true rfl) dX11_romanWidth_48 (fun H locs hW hS => ?_)
  refine lv_istore_n (lv' := [(2, .int r12), (1, .int r6), (0, .int a0)]) hx hb dX11_romanWidth_51 rfl hl (by decide) rfl (fun ls hl => ?_)
  refine lv_iload_n hx hb dX11_romanWidth_52 rfl (lv_at hl 2 rfl) ?_
  refine lv_bipush (v := (10 : Int32)) hx hb dX11_romanWidth_53 (by decide) ?_
  obtain ⟨v13, qv13, h⟩ := ob h
  obtain ⟨zv13, qv13⟩ := rm_some qv13
  refine lv_irem hx hb dX11_romanWidth_55 zv13 ?_
  rw [qv13]
  refine lv_bipush (v := (105 : Int32)) hx hb dX11_romanWidth_56 (by decide) ?_
  obtain ⟨r14, qr14, h⟩ := ob h
  refine k_X11_signWidth F qr14 q_444 ⟨Nat.le_of_ble_eq_true rfl, Nat.le_of_ble_eq_true rfl, Nat.le_of_ble_eq_true rfl, Nat.le_of_ble_eq_true rfl⟩ hW hS hl.1 (Nat.le_of_ble_eq_true rfl) dX11_romanWidth_58 (fun H locs hW hS => ?_)
  refine lv_bipush (v := (118 : Int32)) hx hb dX11_romanWidth_61 (by decide) ?_
  obtain ⟨r15, qr15, h⟩ := ob h
  refine k_X11_signWidth F qr15 q_444 ⟨Nat.le_of_ble_eq_true rfl, Nat.le_of_ble_eq_true rfl, Nat.le_of_ble_eq_true rfl, Nat.le_of_ble_eq_true rfl⟩ hW hS hl.1 (Nat.le_of_ble_eq_true rfl) dX11_romanWidth_63 (fun H locs hW hS => ?_)
  refine lv_bipush (v := (120 : Int32)) hx hb dX11_romanWidth_66 (by decide) ?_
  obtain ⟨r16, qr16, h⟩ := ob h
  refine k_X11_signWidth F qr16 q_444 ⟨Nat.le_of_ble_eq_true rfl, Nat.le_of_ble_eq_true rfl, Nat.le_of_ble_eq_true rfl, Nat.le_of_ble_eq_true rfl⟩ hW hS hl.1 (Nat.le_of_ble_eq_true rfl) dX11_romanWidth_68 (fun H locs hW hS => ?_)
  obtain ⟨r17, qr17, h⟩ := ob h
  refine k_X11_romanFigureWidth F qr17 q_495 ⟨Nat.le_of_ble_eq_true rfl, Nat.le_of_ble_eq_true rfl, Nat.le_of_ble_eq_true rfl, Nat.le_of_ble_eq_true rfl⟩ hW hS hl.1 (Nat.le_of_ble_eq_true rfl) dX11_romanWidth_71 (fun H locs hW hS => ?_)
  refine lv_istore_n (lv' := [(3, .int r17), (2, .int r12), (1, .int r6), (0, .int a0)]) hx hb dX11_romanWidth_74 rfl hl (by decide) rfl (fun ls hl => ?_)
  refine lv_iload_n hx hb dX11_romanWidth_75 rfl (lv_at hl 3 rfl) ?_
  refine lv_sipush (v := (1000 : Int32)) hx hb dX11_romanWidth_76 (by decide) ?_
  obtain ⟨v18, qv18, h⟩ := ob h
  obtain ⟨zv18, qv18⟩ := dv_some qv18
  refine lv_idiv hx hb dX11_romanWidth_79 zv18 ?_
  rw [qv18]
  refine lv_bipush (v := (109 : Int32)) hx hb dX11_romanWidth_80 (by decide) ?_
  obtain ⟨r19, qr19, h⟩ := ob h
  refine k_X11_signWidth F qr19 q_444 ⟨Nat.le_of_ble_eq_true rfl, Nat.le_of_ble_eq_true rfl, Nat.le_of_ble_eq_true rfl, Nat.le_of_ble_eq_true rfl⟩ hW hS hl.1 (Nat.le_of_ble_eq_true rfl) dX11_romanWidth_82 (fun H locs hW hS => ?_)
  refine lv_imul hx hb dX11_romanWidth_85 ?_
  refine lv_iload_n hx hb dX11_romanWidth_86 rfl (lv_at hl 2 rfl) ?_
  refine lv_iadd hx hb dX11_romanWidth_87 ?_
  refine lv_iload_n hx hb dX11_romanWidth_88 rfl (lv_at hl 1 rfl) ?_
  refine lv_iadd hx hb dX11_romanWidth_89 ?_
  refine lv_iload_n hx hb dX11_romanWidth_90 rfl (lv_at hl 0 rfl) ?_
  refine lv_iadd hx hb dX11_romanWidth_91 ?_
  cases h
  exact r_int F hr hW hS dX11_romanWidth_92
set_option maxHeartbeats 4000000 in
set_option maxRecDepth 100000 in
theorem c_X11_romanWidth {l : Launch} {G : Gt} {b : Nat} {a0 : Int32} {μ : Mm} {out : Int32} (h : sh_X11_romanWidth a0 μ = some out) : Met l yX11_romanWidth (wU (Cond.code yX11_romanWidth cX11_romanWidth 4 (some .int))) ({ frames := 1, cells := 0, slots := 0, locals := 23 } : Room) (PcW G b μ [.int a0]) (QW G b μ (some (.int out))) 0 0 (fb b) :=
  met_of [.int a0] (by decide) (Nat.le_of_ble_eq_true rfl) (fun F hr hW hl => wk_X11_romanWidth F hr h hW va_S.rf hl)
set_option maxHeartbeats 4000000 in
set_option maxRecDepth 100000 in
theorem k_X11_romanWidth {nL : Nat} (F : FX G b RX11 cc nL p s m args meth c) {a0 : Int32} {μ : Mm} {out : Int32} (h : sh_X11_romanWidth a0 μ = some out) {index : Nat} (hl : Cond.methodLink RX11 index yX11_romanWidth ∈ TBG) (hR : 1 + 1 ≤ R.frames ∧ 8 + (4 + 11) + 23 ≤ R.locals ∧ cells ≤ R.cells ∧ slots ≤ R.slots) (hW : WH G b μ H) (hS : va_S (fb b) s.heap H locs) (hsz : ls.size = nL) (hrest : (rest.map fun v => v.category).sum ≤ 8) (hdg : decode cc pc = .ok (.invokestatic index, 3))
    (kk : ∀ (H1 : Heap) (locs1 : List Loc), WH G b μ H1 → va_S (fb b) s.heap H1 locs1 → W p l e R s m args below meth c H1 locs1 cells slots Q (F0 m (pc + 3) ls (.int out :: rest))) : W p l e R s m args below meth c H locs cells slots Q (F0 m pc ls (.int a0 :: rest)) :=
  f_callS (As := [.int a0]) (c_X11_romanWidth h) ⟨rfl, rfl⟩ q_493 q_1 q_494 rfl ⟨by decide +kernel, by decide +kernel, (show (parseMethodDescriptor yX11_romanWidth.desc).map (fun d => d.parameters.length) = some 1 by decide +kernel)⟩ F hl hR hW hS hsz hrest rfl hdg kk
set_option maxHeartbeats 4000000 in
set_option maxRecDepth 100000 in
theorem k_X11_romanWidth_n {own : String} {nL : Nat} (F : FX G b own cc nL p s m args meth c) {a0 : Int32} {μ : Mm} {out : Int32} (h : sh_X11_romanWidth a0 μ = some out) {index : Nat} (hl : (own, index, yX11_romanWidth, "ContentsSetter") ∈ nestL) (hR : 1 + 1 ≤ R.frames ∧ 8 + (4 + 11) + 23 ≤ R.locals ∧ cells ≤ R.cells ∧ slots ≤ R.slots) (hW : WH G b μ H) (hS : va_S (fb b) s.heap H locs) (hsz : ls.size = nL) (hrest : (rest.map fun v => v.category).sum ≤ 8) (hdg : decode cc pc = .ok (.invokestatic index, 3))
    (kk : ∀ (H1 : Heap) (locs1 : List Loc), WH G b μ H1 → va_S (fb b) s.heap H1 locs1 → W p l e R s m args below meth c H1 locs1 cells slots Q (F0 m (pc + 3) ls (.int out :: rest))) : W p l e R s m args below meth c H locs cells slots Q (F0 m pc ls (.int a0 :: rest)) :=
  f_callSN (As := [.int a0]) (c_X11_romanWidth h) ⟨rfl, rfl⟩ q_493 q_1 q_494 ⟨by decide +kernel, by decide +kernel, (show (parseMethodDescriptor yX11_romanWidth.desc).map (fun d => d.parameters.length) = some 1 by decide +kernel)⟩ F hl hR hW hS hsz hrest rfl hdg kk
set_option maxHeartbeats 4000000 in
set_option maxRecDepth 100000 in
theorem wk_X3_lay_129 {n : Nat} {t : Nat} {a1 : Nat} {a2 : Int32} {k70 : (Int32 → Int32 → Mm → Option Mm)} {x4 : Int32} {x6 : Int32} {x7 : Int32} {x8 : Int32} {s1 : Int32} {s2 : Int32} {μ : Mm} {out : Mm} (F : FX G b RX3 cX3_lay 9 p s m args meth c) (hr : meth.sig.returnType = none) (ht : okPz t) (ha1 : okBk a1) (hk70 : ∀ (x4 : Int32) (x6 : Int32) (μ : Mm) (H : Heap) (locs : List Loc) (ls : Array Slot), k70 x4 x6 μ = some out → WH G b μ H → va_S (fb b) s.heap H locs → lv_has ls 9 [(0, .ref (b + t)), (1, .ref (b + a1)), (4, .int x4), (6, .int x6)] → W p l e ({ frames := 2, cells := 0, slots := 0, locals := 50 } : Room) s m args below meth c H locs 0 0 (MQ below (QW G b out none) args s 0 0 (fb b)) (F0 m 70 ls [])) (h : sh_X3_lay_129 n t a1 a2 k70 x4 x6 x7 x8 s1 s2 μ = some out) (hW : WH G b μ H) (hS : va_S (fb b) s.heap H locs) (hl : lv_has ls 9 [(0, .ref (b + t)), (1, .ref (b + a1)), (4, .int x4), (6, .int x6), (7, .int x7), (8, .int x8)]) : W p l e ({ frames := 2, cells := 0, slots := 0, locals := 50 } : Room) s m args below meth c H locs 0 0 (MQ below (QW G b out none) args s 0 0 (fb b)) (F0 m 129 ls [.int s2, .int s1, .ref (b + (t + 3))]) := by
  have hx := F.1
  have hb := F.2.1
  unfold sh_X3_lay_129 at h
  obtain ⟨r11, qr11, h⟩ := ob h
  refine k_X5_put F (ht).2.2.1 qr11 q_490 ⟨Nat.le_of_ble_eq_true rfl, Nat.le_of_ble_eq_true rfl, Nat.le_of_ble_eq_true rfl, Nat.le_of_ble_eq_true rfl⟩ hW hS hl.1 (Nat.le_of_ble_eq_true rfl) dX3_lay_129 (fun H locs hW hS => ?_)
  refine lv_aload_n hx hb dX3_lay_132 rfl (lv_at hl 0 rfl) ?_
  refine fl_get3 (v := .ref (b + (t + 7))) (ht).1 F hW 3 (by decide) q_278 rfl rfl dX3_lay_133 ?_
  refine lv_iload hx hb dX3_lay_136 (lv_at hl 3 rfl) ?_
  refine lv_iload hx hb dX3_lay_138 (lv_at hl 5 rfl) ?_
  refine lv_if_eq (tgt := 151) hx hb dX3_lay_140 (by decide) (fun cc => ?_) (fun cc => ?_)
  · replace h := (if_pos cc).symm.trans h
    refine lv_iload hx hb dX3_lay_151 (lv_at hl 4 rfl) ?_
    obtain ⟨r12, qr12, h⟩ := ob h
    refine k_X11_arabicWidth_n F qr12 (by decide +kernel) ⟨Nat.le_of_ble_eq_true rfl, Nat.le_of_ble_eq_true rfl, Nat.le_of_ble_eq_true rfl, Nat.le_of_ble_eq_true rfl⟩ hW hS hl.1 (Nat.le_of_ble_eq_true rfl) dX3_lay_153 (fun H locs hW hS => ?_)
    obtain ⟨r13, qr13, h⟩ := ob h
    refine k_X5_put F (ht).2.2.2.2 qr13 q_490 ⟨Nat.le_of_ble_eq_true rfl, Nat.le_of_ble_eq_true rfl, Nat.le_of_ble_eq_true rfl, Nat.le_of_ble_eq_true rfl⟩ hW hS hl.1 (Nat.le_of_ble_eq_true rfl) dX3_lay_156 (fun H locs hW hS => ?_)
    refine lv_iinc (v := (x6 + (1 : Int32))) (lv' := [(6, .int (x6 + (1 : Int32))), (0, .ref (b + t)), (1, .ref (b + a1)), (4, .int x4), (7, .int x7), (8, .int x8)]) hx hb dX3_lay_159 hl (k := 3) rfl rfl (by decide) rfl (fun ls hl => ?_)
    refine lv_goto (tgt := 70) hx hb dX3_lay_162 (by decide) ?_
    exact hk70 _ _ _ _ _ _ h hW hS (lv_sub hl [1, 2, 3, 0] rfl)
  · replace h := (if_neg cc).symm.trans h
    refine lv_iload hx hb dX3_lay_143 (lv_at hl 4 rfl) ?_
    obtain ⟨r14, qr14, h⟩ := ob h
    refine k_X11_romanWidth_n F qr14 (by decide +kernel) ⟨Nat.le_of_ble_eq_true rfl, Nat.le_of_ble_eq_true rfl, Nat.le_of_ble_eq_true rfl, Nat.le_of_ble_eq_true rfl⟩ hW hS hl.1 (Nat.le_of_ble_eq_true rfl) dX3_lay_145 (fun H locs hW hS => ?_)
    refine lv_goto (tgt := 156) hx hb dX3_lay_148 (by decide) ?_
    obtain ⟨r15, qr15, h⟩ := ob h
    refine k_X5_put F (ht).2.2.2.2 qr15 q_490 ⟨Nat.le_of_ble_eq_true rfl, Nat.le_of_ble_eq_true rfl, Nat.le_of_ble_eq_true rfl, Nat.le_of_ble_eq_true rfl⟩ hW hS hl.1 (Nat.le_of_ble_eq_true rfl) dX3_lay_156 (fun H locs hW hS => ?_)
    refine lv_iinc (v := (x6 + (1 : Int32))) (lv' := [(6, .int (x6 + (1 : Int32))), (0, .ref (b + t)), (1, .ref (b + a1)), (4, .int x4), (7, .int x7), (8, .int x8)]) hx hb dX3_lay_159 hl (k := 3) rfl rfl (by decide) rfl (fun ls hl => ?_)
    refine lv_goto (tgt := 70) hx hb dX3_lay_162 (by decide) ?_
    exact hk70 _ _ _ _ _ _ h hW hS (lv_sub hl [1, 2, 3, 0] rfl)
set_option maxHeartbeats 4000000 in
set_option maxRecDepth 100000 in
theorem wk_X3_lay_104 {n : Nat} {t : Nat} {a1 : Nat} {a2 : Int32} {k70 : (Int32 → Int32 → Mm → Option Mm)} {x4 : Int32} {x6 : Int32} {x7 : Int32} {s0 : Int32} {μ : Mm} {out : Mm} (F : FX G b RX3 cX3_lay 9 p s m args meth c) (hr : meth.sig.returnType = none) (ht : okPz t) (ha1 : okBk a1) (hk70 : ∀ (x4 : Int32) (x6 : Int32) (μ : Mm) (H : Heap) (locs : List Loc) (ls : Array Slot), k70 x4 x6 μ = some out → WH G b μ H → va_S (fb b) s.heap H locs → lv_has ls 9 [(0, .ref (b + t)), (1, .ref (b + a1)), (4, .int x4), (6, .int x6)] → W p l e ({ frames := 2, cells := 0, slots := 0, locals := 50 } : Room) s m args below meth c H locs 0 0 (MQ below (QW G b out none) args s 0 0 (fb b)) (F0 m 70 ls [])) (h : sh_X3_lay_104 n t a1 a2 k70 x4 x6 x7 s0 μ = some out) (hW : WH G b μ H) (hS : va_S (fb b) s.heap H locs) (hl : lv_has ls 9 [(0, .ref (b + t)), (1, .ref (b + a1)), (4, .int x4), (6, .int x6), (7, .int x7)]) : W p l e ({ frames := 2, cells := 0, slots := 0, locals := 50 } : Room) s m args below meth c H locs 0 0 (MQ below (QW G b out none) args s 0 0 (fb b)) (F0 m 104 ls [.int s0]) := by
  have hx := F.1
  have hb := F.2.1
  unfold sh_X3_lay_104 at h
  refine lv_istore (lv' := [(8, .int s0), (0, .ref (b + t)), (1, .ref (b + a1)), (4, .int x4), (6, .int x6), (7, .int x7)]) hx hb dX3_lay_104 hl (by decide) rfl (fun ls hl => ?_)
  refine lv_aload_n hx hb dX3_lay_106 rfl (lv_at hl 1 rfl) ?_
  refine fl_get3 (v := .ref (b + (t + 3))) (ht).1 F hW 1 (by decide) q_274 rfl rfl dX3_lay_107 ?_
  refine lv_iload hx hb dX3_lay_110 (lv_at hl 4 rfl) ?_
  refine lv_iload hx hb dX3_lay_112 (lv_at hl 0 rfl) ?_
  refine lv_if_eq (tgt := 122) hx hb dX3_lay_114 (by decide) (fun cc => ?_) (fun cc => ?_)
  · replace h := (if_pos cc).symm.trans h
    refine lv_iload hx hb dX3_lay_122 (lv_at hl 3 rfl) ?_
    refine lv_iload hx hb dX3_lay_124 (lv_at hl 5 rfl) ?_
    refine lv_iadd hx hb dX3_lay_126 ?_
    refine lv_iconst (v := (1 : Int32)) hx hb dX3_lay_127 (by decide) ?_
    refine lv_isub hx hb dX3_lay_128 ?_
    exact wk_X3_lay_129 F hr ht ha1 hk70 h hW hS (lv_sub hl [1, 2, 3, 4, 5, 0] rfl)
  · replace h := (if_neg cc).symm.trans h
    refine lv_iload hx hb dX3_lay_117 (lv_at hl 5 rfl) ?_
    refine lv_goto (tgt := 129) hx hb dX3_lay_119 (by decide) ?_
    exact wk_X3_lay_129 F hr ht ha1 hk70 h hW hS (lv_sub hl [1, 2, 3, 4, 5, 0] rfl)
set_option maxHeartbeats 4000000 in
set_option maxRecDepth 100000 in
theorem wk_X3_lay_70 {n : Nat} {t : Nat} {a1 : Nat} {a2 : Int32} {out : Mm} (F : FX G b RX3 cX3_lay 9 p s m args meth c) (hr : meth.sig.returnType = none) (ht : okPz t) (ha1 : okBk a1) : ∀ (f : Nat) (x4 : Int32) (x6 : Int32) (μ : Mm) (H : Heap) (locs : List Loc) (ls : Array Slot), sh_X3_lay_70 n t a1 a2 f x4 x6 μ = some out → WH G b μ H → va_S (fb b) s.heap H locs → lv_has ls 9 [(0, .ref (b + t)), (1, .ref (b + a1)), (4, .int x4), (6, .int x6)] → W p l e ({ frames := 2, cells := 0, slots := 0, locals := 50 } : Room) s m args below meth c H locs 0 0 (MQ below (QW G b out none) args s 0 0 (fb b)) (F0 m 70 ls []) := by
  have hx := F.1
  have hb := F.2.1
  intro f
  induction f with
  | zero =>
    intro _ _ _ _ _ _ h
    rw [sh_X3_lay_70] at h
    cases h
  | succ f ih =>
    intro x4 x6 μ H locs ls h hW hS hl
    rw [sh_X3_lay_70] at h
    have hk70 := ih
    refine lv_iload hx hb dX3_lay_70 (lv_at hl 3 rfl) ?_
    refine lv_aload_n hx hb dX3_lay_72 rfl (lv_at hl 1 rfl) ?_
    refine fl_get0 (v := .int (μ.1 a1 2)) (ha1).1 F hW 2 (by decide) q_161 rfl rfl dX3_lay_73 ?_
    refine lv_icmp_ge (tgt := 165) hx hb dX3_lay_76 (by decide) (fun cc => ?_) (fun cc => ?_)
    · replace h := (if_pos cc).symm.trans h
      cases h
      exact r_void F hr hW hS dX3_lay_165
    · replace h := (if_neg cc).symm.trans h
      refine lv_aload_n hx hb dX3_lay_79 rfl (lv_at hl 0 rfl) ?_
      refine fl_get3 (v := .ref (b + (t + 1))) (ht).1 F hW 0 (by decide) q_271 rfl rfl dX3_lay_80 ?_
      refine lv_iload hx hb dX3_lay_83 (lv_at hl 3 rfl) ?_
      obtain ⟨r9, qr9, h⟩ := ob h
      refine k_X5_at F (ht).2.1 qr9 q_475 ⟨Nat.le_of_ble_eq_true rfl, Nat.le_of_ble_eq_true rfl, Nat.le_of_ble_eq_true rfl, Nat.le_of_ble_eq_true rfl⟩ hW hS hl.1 (Nat.le_of_ble_eq_true rfl) dX3_lay_85 (fun H locs hW hS => ?_)
      refine lv_istore (lv' := [(7, .int r9), (0, .ref (b + t)), (1, .ref (b + a1)), (4, .int x4), (6, .int x6)]) hx hb dX3_lay_88 hl (by decide) rfl (fun ls hl => ?_)
      refine lv_aload_n hx hb dX3_lay_90 rfl (lv_at hl 2 rfl) ?_
      refine lv_iload hx hb dX3_lay_91 (lv_at hl 4 rfl) ?_
      obtain ⟨r10, qr10, h⟩ := ob h
      refine k_X0_partOf F ha1 qr10 q_491 ⟨Nat.le_of_ble_eq_true rfl, Nat.le_of_ble_eq_true rfl, Nat.le_of_ble_eq_true rfl, Nat.le_of_ble_eq_true rfl⟩ hW hS hl.1 (Nat.le_of_ble_eq_true rfl) dX3_lay_93 (fun H locs hW hS => ?_)
      refine lv_if_ne (tgt := 103) hx hb dX3_lay_96 (by decide) (fun cc => ?_) (fun cc => ?_)
      · replace h := (if_neg cc).symm.trans h
        refine lv_iconst (v := (0 : Int32)) hx hb dX3_lay_103 (by decide) ?_
        exact wk_X3_lay_104 F hr ht ha1 hk70 h hW hS (lv_sub hl [1, 2, 3, 4, 0] rfl)
      · replace h := (if_pos cc).symm.trans h
        refine lv_iconst (v := (1 : Int32)) hx hb dX3_lay_99 (by decide) ?_
        refine lv_goto (tgt := 104) hx hb dX3_lay_100 (by decide) ?_
        exact wk_X3_lay_104 F hr ht ha1 hk70 h hW hS (lv_sub hl [1, 2, 3, 4, 0] rfl)
set_option maxHeartbeats 4000000 in
set_option maxRecDepth 100000 in
theorem wk_X3_lay_44 {n : Nat} {t : Nat} {a1 : Nat} {a2 : Int32} {x3 : Int32} {x4 : Int32} {x5 : Int32} {s1 : Int32} {μ : Mm} {out : Mm} (F : FX G b RX3 cX3_lay 9 p s m args meth c) (hr : meth.sig.returnType = none) (ht : okPz t) (ha1 : okBk a1) (h : sh_X3_lay_44 n t a1 a2 x3 x4 x5 s1 μ = some out) (hW : WH G b μ H) (hS : va_S (fb b) s.heap H locs) (hl : lv_has ls 9 [(0, .ref (b + t)), (1, .ref (b + a1)), (3, .int x3), (4, .int x4), (5, .int x5)]) : W p l e ({ frames := 2, cells := 0, slots := 0, locals := 50 } : Room) s m args below meth c H locs 0 0 (MQ below (QW G b out none) args s 0 0 (fb b)) (F0 m 44 ls [.int s1, .ref (b + t)]) := by
  have hx := F.1
  have hb := F.2.1
  unfold sh_X3_lay_44 at h
  obtain ⟨μ7, hmμ7, h⟩ := ob h
  refine fl_put3_4 (ht).1 F hW hS q_281 hmμ7 dX3_lay_44 (fun H locs hW hS => ?_)
  refine lv_aload_n hx hb dX3_lay_47 rfl (lv_at hl 0 rfl) ?_
  refine lv_iload hx hb dX3_lay_48 (lv_at hl 4 rfl) ?_
  refine lv_if_le (tgt := 63) hx hb dX3_lay_50 (by decide) (fun cc => ?_) (fun cc => ?_)
  · replace h := (if_pos cc).symm.trans h
    refine lv_iload_n hx hb dX3_lay_63 rfl (lv_at hl 2 rfl) ?_
    obtain ⟨μ8, hmμ8, h⟩ := ob h
    refine fl_put3_5 (ht).1 F hW hS q_283 hmμ8 dX3_lay_64 (fun H locs hW hS => ?_)
    refine lv_iconst (v := (0 : Int32)) hx hb dX3_lay_67 (by decide) ?_
    refine lv_istore (lv' := [(6, .int (0 : Int32)), (0, .ref (b + t)), (1, .ref (b + a1)), (3, .int x3), (4, .int x4), (5, .int x5)]) hx hb dX3_lay_68 hl (by decide) rfl (fun ls hl => ?_)
    exact wk_X3_lay_70 F hr ht ha1 n _ _ _ _ _ _ h hW hS (lv_sub hl [1, 2, 4, 0] rfl)
  · replace h := (if_neg cc).symm.trans h
    refine lv_iload hx hb dX3_lay_53 (lv_at hl 3 rfl) ?_
    refine lv_iload hx hb dX3_lay_55 (lv_at hl 4 rfl) ?_
    refine lv_iadd hx hb dX3_lay_57 ?_
    refine lv_iconst (v := (1 : Int32)) hx hb dX3_lay_58 (by decide) ?_
    refine lv_isub hx hb dX3_lay_59 ?_
    refine lv_goto (tgt := 64) hx hb dX3_lay_60 (by decide) ?_
    obtain ⟨μ16, hmμ16, h⟩ := ob h
    refine fl_put3_5 (ht).1 F hW hS q_283 hmμ16 dX3_lay_64 (fun H locs hW hS => ?_)
    refine lv_iconst (v := (0 : Int32)) hx hb dX3_lay_67 (by decide) ?_
    refine lv_istore (lv' := [(6, .int (0 : Int32)), (0, .ref (b + t)), (1, .ref (b + a1)), (3, .int x3), (4, .int x4), (5, .int x5)]) hx hb dX3_lay_68 hl (by decide) rfl (fun ls hl => ?_)
    exact wk_X3_lay_70 F hr ht ha1 n _ _ _ _ _ _ h hW hS (lv_sub hl [1, 2, 4, 0] rfl)
set_option maxHeartbeats 4000000 in
set_option maxRecDepth 100000 in
theorem wk_X3_lay {n : Nat} {t : Nat} {a1 : Nat} {a2 : Int32} {μ : Mm} {out : Mm} (F : FX G b RX3 cX3_lay 9 p s m args meth c) (hr : meth.sig.returnType = none) (ht : okPz t) (ha1 : okBk a1) (h : sh_X3_lay n t a1 a2 μ = some out) (hW : WH G b μ H) (hS : va_S (fb b) s.heap H locs) (hl : lv_has ls 9 [(0, .ref (b + t)), (1, .ref (b + a1)), (2, .int a2)]) : W p l e ({ frames := 2, cells := 0, slots := 0, locals := 50 } : Room) s m args below meth c H locs 0 0 (MQ below (QW G b out none) args s 0 0 (fb b)) (F0 m 0 ls []) := by
  have hx := F.1
  have hb := F.2.1
  unfold sh_X3_lay at h
  refine lv_iload_n hx hb dX3_lay_0 rfl (lv_at hl 2 rfl) ?_
  refine lv_aload_n hx hb dX3_lay_1 rfl (lv_at hl 0 rfl) ?_
  refine lv_aload_n hx hb dX3_lay_2 rfl (lv_at hl 1 rfl) ?_
  refine lv_iconst (v := (0 : Int32)) hx hb dX3_lay_3 (by decide) ?_
  refine lv_iload_n hx hb dX3_lay_4 rfl (lv_at hl 2 rfl) ?_
  obtain ⟨r1, qr1, h⟩ := ob h
  refine k_X3_layPart F ht ha1 qr1 q_471 ⟨Nat.le_of_ble_eq_true rfl, Nat.le_of_ble_eq_true rfl, Nat.le_of_ble_eq_true rfl, Nat.le_of_ble_eq_true rfl⟩ hW hS hl.1 (Nat.le_of_ble_eq_true rfl) dX3_lay_5 (fun H locs hW hS => ?_)
  refine lv_iadd hx hb dX3_lay_8 ?_
  obtain ⟨v2, ev2⟩ : ∃ y, y = (a2 + r1.1) := ⟨_, rfl⟩
  have h := nm_at ev2 h
  rw [← ev2]
  refine lv_istore_n (lv' := [(3, .int v2), (0, .ref (b + t)), (1, .ref (b + a1)), (2, .int a2)]) hx hb dX3_lay_9 rfl hl (by decide) rfl (fun ls hl => ?_)
  refine lv_iconst (v := (1 : Int32)) hx hb dX3_lay_10 (by decide) ?_
  refine lv_iload_n hx hb dX3_lay_11 rfl (lv_at hl 0 rfl) ?_
  refine lv_iconst (v := (0 : Int32)) hx hb dX3_lay_12 (by decide) ?_
  refine lv_aload_n hx hb dX3_lay_13 rfl (lv_at hl 2 rfl) ?_
  refine fl_get0 (v := .int (r1.2.1 a1 1)) (ha1).1 F hW 1 (by decide) q_154 rfl rfl dX3_lay_14 ?_
  obtain ⟨r3, qr3, h⟩ := ob h
  refine k_X3_pagesBeforeChapter F qr3 q_484 ⟨Nat.le_of_ble_eq_true rfl, Nat.le_of_ble_eq_true rfl, Nat.le_of_ble_eq_true rfl, Nat.le_of_ble_eq_true rfl⟩ hW hS hl.1 (Nat.le_of_ble_eq_true rfl) dX3_lay_17 (fun H locs hW hS => ?_)
  refine lv_iadd hx hb dX3_lay_20 ?_
  obtain ⟨v4, ev4⟩ : ∃ y, y = ((1 : Int32) + r3) := ⟨_, rfl⟩
  have h := nm_at ev4 h
  rw [← ev4]
  refine lv_istore (lv' := [(4, .int v4), (3, .int v2), (0, .ref (b + t)), (1, .ref (b + a1)), (2, .int a2)]) hx hb dX3_lay_21 hl (by decide) rfl (fun ls hl => ?_)
  refine lv_aload_n hx hb dX3_lay_23 rfl (lv_at hl 2 rfl) ?_
  refine lv_aload_n hx hb dX3_lay_24 rfl (lv_at hl 3 rfl) ?_
  refine lv_iconst (v := (1 : Int32)) hx hb dX3_lay_25 (by decide) ?_
  refine lv_iconst (v := (0 : Int32)) hx hb dX3_lay_26 (by decide) ?_
  obtain ⟨r5, qr5, h⟩ := ob h
  refine k_X3_layPart F ht ha1 qr5 q_471 ⟨Nat.le_of_ble_eq_true rfl, Nat.le_of_ble_eq_true rfl, Nat.le_of_ble_eq_true rfl, Nat.le_of_ble_eq_true rfl⟩ hW hS hl.1 (Nat.le_of_ble_eq_true rfl) dX3_lay_27 (fun H locs hW hS => ?_)
  obtain ⟨v6, ev6⟩ : ∃ y, y = r5.1 := ⟨_, rfl⟩
  have h := nm_at ev6 h
  rw [← ev6]
  refine lv_istore (lv' := [(5, .int v6), (4, .int v4), (3, .int v2), (0, .ref (b + t)), (1, .ref (b + a1)), (2, .int a2)]) hx hb dX3_lay_30 hl (by decide) rfl (fun ls hl => ?_)
  refine lv_aload_n hx hb dX3_lay_32 rfl (lv_at hl 3 rfl) ?_
  refine lv_iload hx hb dX3_lay_33 (lv_at hl 0 rfl) ?_
  refine lv_if_le (tgt := 43) hx hb dX3_lay_35 (by decide) (fun cc => ?_) (fun cc => ?_)
  · replace h := (if_pos cc).symm.trans h
    refine lv_iconst (v := (0 : Int32)) hx hb dX3_lay_43 (by decide) ?_
    exact wk_X3_lay_44 F hr ht ha1 h hW hS (lv_sub hl [3, 4, 2, 1, 0] rfl)
  · replace h := (if_neg cc).symm.trans h
    refine lv_iload hx hb dX3_lay_38 (lv_at hl 1 rfl) ?_
    refine lv_goto (tgt := 44) hx hb dX3_lay_40 (by decide) ?_
    exact wk_X3_lay_44 F hr ht ha1 h hW hS (lv_sub hl [3, 4, 2, 1, 0] rfl)
set_option maxHeartbeats 4000000 in
set_option maxRecDepth 100000 in
theorem c_X3_lay {l : Launch} {G : Gt} {b : Nat} {n : Nat} {t : Nat} {a1 : Nat} {a2 : Int32} {μ : Mm} {out : Mm} (ht : okPz t) (ha1 : okBk a1) (h : sh_X3_lay n t a1 a2 μ = some out) : Met l yX3_lay (wU (Cond.code yX3_lay cX3_lay 9 none)) ({ frames := 2, cells := 0, slots := 0, locals := 50 } : Room) (PcW G b μ [.ref (b + t), .ref (b + a1), .int a2]) (QW G b out none) 0 0 (fb b) :=
  met_of [.ref (b + t), .ref (b + a1), .int a2] (by decide) (Nat.le_of_ble_eq_true rfl) (fun F hr hW hl => wk_X3_lay F hr ht ha1 h hW va_S.rf hl)
set_option maxHeartbeats 4000000 in
set_option maxRecDepth 100000 in
theorem k_X3_lay {own : String} {nL : Nat} (F : FX G b own cc nL p s m args meth c) {n : Nat} {t : Nat} {a1 : Nat} {a2 : Int32} {μ : Mm} {out : Mm} (ht : okPz t) (ha1 : okBk a1) (h : sh_X3_lay n t a1 a2 μ = some out) {index : Nat} (hl : Cond.methodLink own index yX3_lay ∈ TBG) (hR : 2 + 1 ≤ R.frames ∧ 8 + (9 + 11) + 50 ≤ R.locals ∧ cells ≤ R.cells ∧ slots ≤ R.slots) (hW : WH G b μ H) (hS : va_S (fb b) s.heap H locs) (hsz : ls.size = nL) (hrest : (rest.map fun v => v.category).sum ≤ 8) (hdg : decode cc pc = .ok (.invokevirtual index, 3))
    (kk : ∀ (H1 : Heap) (locs1 : List Loc), WH G b out H1 → va_S (fb b) s.heap H1 locs1 → W p l e R s m args below meth c H1 locs1 cells slots Q (F0 m (pc + 3) ls (rest))) : W p l e R s m args below meth c H locs cells slots Q (F0 m pc ls (.int a2 :: .ref (b + a1) :: .ref (b + t) :: rest)) :=
  f_callV (As := [.ref (b + a1), .int a2]) (ci := 3) (c_X3_lay ht ha1 h) ⟨rfl, rfl⟩ rfl (ky_lt ht.1 (by decide)) (wF_3 ht.1) q_468 q_469 q_11 q_470 rfl ⟨by decide +kernel, by decide +kernel, (show (parseMethodDescriptor yX3_lay.desc).map (fun d => d.parameters.length) = some 2 by decide +kernel)⟩ F hl hR hW hS hsz hrest rfl hdg kk
set_option maxHeartbeats 4000000 in
set_option maxRecDepth 100000 in
theorem wk_X3_hasNumbersOf_2 {n : Nat} {t : Nat} {a1 : Nat} {a2 : Int32} {μ : Mm} {out : Int32} (F : FX G b RX3 cX3_hasNumbersOf 4 p s m args meth c) (hr : meth.sig.returnType = some .boolean) (ht : okPz t) (ha1 : okPz a1) : ∀ (f : Nat) (x3 : Int32) (H : Heap) (locs : List Loc) (ls : Array Slot), sh_X3_hasNumbersOf_2 n t a1 a2 μ f x3 = some out → WH G b μ H → va_S (fb b) s.heap H locs → lv_has ls 4 [(0, .ref (b + t)), (1, .ref (b + a1)), (2, .int a2), (3, .int x3)] → W p l e ({ frames := 1, cells := 0, slots := 0, locals := 21 } : Room) s m args below meth c H locs 0 0 (MQ below (QW G b μ (some (.int out))) args s 0 0 (fb b)) (F0 m 2 ls []) := by
  have hx := F.1
  have hb := F.2.1
  intro f
  induction f with
  | zero =>
    intro _ _ _ _ h
    rw [sh_X3_hasNumbersOf_2] at h
    cases h
  | succ f ih =>
    intro x3  H locs ls h hW hS hl
    rw [sh_X3_hasNumbersOf_2] at h
    have hk2 := ih
    refine lv_iload_n hx hb dX3_hasNumbersOf_2 rfl (lv_at hl 3 rfl) ?_
    refine lv_iload_n hx hb dX3_hasNumbersOf_3 rfl (lv_at hl 2 rfl) ?_
    refine lv_icmp_ge (tgt := 34) hx hb dX3_hasNumbersOf_4 (by decide) (fun cc => ?_) (fun cc => ?_)
    · replace h := (if_pos cc).symm.trans h
      refine lv_iconst (v := (1 : Int32)) hx hb dX3_hasNumbersOf_34 (by decide) ?_
      cases h
      exact r_bool F hr (Or.inr rfl) hW hS dX3_hasNumbersOf_35
    · replace h := (if_neg cc).symm.trans h
      refine lv_aload_n hx hb dX3_hasNumbersOf_7 rfl (lv_at hl 0 rfl) ?_
      refine fl_get3 (v := .ref (b + (t + 1))) (ht).1 F hW 0 (by decide) q_271 rfl rfl dX3_hasNumbersOf_8 ?_
      refine lv_iload_n hx hb dX3_hasNumbersOf_11 rfl (lv_at hl 3 rfl) ?_
      obtain ⟨r1, qr1, h⟩ := ob h
      refine k_X5_at F (ht).2.1 qr1 q_475 ⟨Nat.le_of_ble_eq_true rfl, Nat.le_of_ble_eq_true rfl, Nat.le_of_ble_eq_true rfl, Nat.le_of_ble_eq_true rfl⟩ hW hS hl.1 (Nat.le_of_ble_eq_true rfl) dX3_hasNumbersOf_12 (fun H locs hW hS => ?_)
      refine lv_aload_n hx hb dX3_hasNumbersOf_15 rfl (lv_at hl 1 rfl) ?_
      refine fl_get3 (v := .ref (b + (a1 + 1))) (ha1).1 F hW 0 (by decide) q_271 rfl rfl dX3_hasNumbersOf_16 ?_
      refine lv_iload_n hx hb dX3_hasNumbersOf_19 rfl (lv_at hl 3 rfl) ?_
      obtain ⟨r2, qr2, h⟩ := ob h
      refine k_X5_at F (ha1).2.1 qr2 q_475 ⟨Nat.le_of_ble_eq_true rfl, Nat.le_of_ble_eq_true rfl, Nat.le_of_ble_eq_true rfl, Nat.le_of_ble_eq_true rfl⟩ hW hS hl.1 (Nat.le_of_ble_eq_true rfl) dX3_hasNumbersOf_20 (fun H locs hW hS => ?_)
      refine lv_icmp_eq (tgt := 28) hx hb dX3_hasNumbersOf_23 (by decide) (fun cc => ?_) (fun cc => ?_)
      · replace h := (if_pos cc).symm.trans h
        refine lv_iinc (v := (x3 + (1 : Int32))) (lv' := [(3, .int (x3 + (1 : Int32))), (0, .ref (b + t)), (1, .ref (b + a1)), (2, .int a2)]) hx hb dX3_hasNumbersOf_28 hl (k := 3) rfl rfl (by decide) rfl (fun ls hl => ?_)
        refine lv_goto (tgt := 2) hx hb dX3_hasNumbersOf_31 (by decide) ?_
        exact hk2 _ _ _ _ h hW hS (lv_sub hl [1, 2, 3, 0] rfl)
      · replace h := (if_neg cc).symm.trans h
        refine lv_iconst (v := (0 : Int32)) hx hb dX3_hasNumbersOf_26 (by decide) ?_
        cases h
        exact r_bool F hr (Or.inl rfl) hW hS dX3_hasNumbersOf_27
set_option maxHeartbeats 4000000 in
set_option maxRecDepth 100000 in
theorem wk_X3_hasNumbersOf {n : Nat} {t : Nat} {a1 : Nat} {a2 : Int32} {μ : Mm} {out : Int32} (F : FX G b RX3 cX3_hasNumbersOf 4 p s m args meth c) (hr : meth.sig.returnType = some .boolean) (ht : okPz t) (ha1 : okPz a1) (h : sh_X3_hasNumbersOf n t a1 a2 μ = some out) (hW : WH G b μ H) (hS : va_S (fb b) s.heap H locs) (hl : lv_has ls 4 [(0, .ref (b + t)), (1, .ref (b + a1)), (2, .int a2)]) : W p l e ({ frames := 1, cells := 0, slots := 0, locals := 21 } : Room) s m args below meth c H locs 0 0 (MQ below (QW G b μ (some (.int out))) args s 0 0 (fb b)) (F0 m 0 ls []) := by
  have hx := F.1
  have hb := F.2.1
  unfold sh_X3_hasNumbersOf at h
  refine lv_iconst (v := (0 : Int32)) hx hb dX3_hasNumbersOf_0 (by decide) ?_
  refine lv_istore_n (lv' := [(3, .int (0 : Int32)), (0, .ref (b + t)), (1, .ref (b + a1)), (2, .int a2)]) hx hb dX3_hasNumbersOf_1 rfl hl (by decide) rfl (fun ls hl => ?_)
  exact wk_X3_hasNumbersOf_2 F hr ht ha1 n _ _ _ _ h hW hS (lv_sub hl [1, 2, 3, 0] rfl)
set_option maxHeartbeats 4000000 in
set_option maxRecDepth 100000 in
theorem c_X3_hasNumbersOf {l : Launch} {G : Gt} {b : Nat} {n : Nat} {t : Nat} {a1 : Nat} {a2 : Int32} {μ : Mm} {out : Int32} (ht : okPz t) (ha1 : okPz a1) (h : sh_X3_hasNumbersOf n t a1 a2 μ = some out) : Met l yX3_hasNumbersOf (wU (Cond.code yX3_hasNumbersOf cX3_hasNumbersOf 4 (some .boolean))) ({ frames := 1, cells := 0, slots := 0, locals := 21 } : Room) (PcW G b μ [.ref (b + t), .ref (b + a1), .int a2]) (QW G b μ (some (.int out))) 0 0 (fb b) :=
  met_of [.ref (b + t), .ref (b + a1), .int a2] (by decide) (Nat.le_of_ble_eq_true rfl) (fun F hr hW hl => wk_X3_hasNumbersOf F hr ht ha1 h hW va_S.rf hl)
set_option maxHeartbeats 4000000 in
set_option maxRecDepth 100000 in
theorem k_X3_hasNumbersOf {own : String} {nL : Nat} (F : FX G b own cc nL p s m args meth c) {n : Nat} {t : Nat} {a1 : Nat} {a2 : Int32} {μ : Mm} {out : Int32} (ht : okPz t) (ha1 : okPz a1) (h : sh_X3_hasNumbersOf n t a1 a2 μ = some out) {index : Nat} (hl : Cond.methodLink own index yX3_hasNumbersOf ∈ TBG) (hR : 1 + 1 ≤ R.frames ∧ 8 + (4 + 11) + 21 ≤ R.locals ∧ cells ≤ R.cells ∧ slots ≤ R.slots) (hW : WH G b μ H) (hS : va_S (fb b) s.heap H locs) (hsz : ls.size = nL) (hrest : (rest.map fun v => v.category).sum ≤ 8) (hdg : decode cc pc = .ok (.invokevirtual index, 3))
    (kk : ∀ (H1 : Heap) (locs1 : List Loc), WH G b μ H1 → va_S (fb b) s.heap H1 locs1 → W p l e R s m args below meth c H1 locs1 cells slots Q (F0 m (pc + 3) ls (.int out :: rest))) : W p l e R s m args below meth c H locs cells slots Q (F0 m pc ls (.int a2 :: .ref (b + a1) :: .ref (b + t) :: rest)) :=
  f_callV (As := [.ref (b + a1), .int a2]) (ci := 3) (c_X3_hasNumbersOf ht ha1 h) ⟨rfl, rfl⟩ rfl (ky_lt ht.1 (by decide)) (wF_3 ht.1) q_1380 q_1381 q_11 q_1382 rfl ⟨by decide +kernel, by decide +kernel, (show (parseMethodDescriptor yX3_hasNumbersOf.desc).map (fun d => d.parameters.length) = some 2 by decide +kernel)⟩ F hl hR hW hS hsz hrest rfl hdg kk
set_option maxHeartbeats 4000000 in
set_option maxRecDepth 100000 in
theorem wk_X3_isFirstOnPage {t : Nat} {a1 : Int32} {μ : Mm} {out : Int32} (F : FX G b RX3 cX3_isFirstOnPage 2 p s m args meth c) (hr : meth.sig.returnType = some .boolean) (ht : okPz t) (h : sh_X3_isFirstOnPage t a1 μ = some out) (hW : WH G b μ H) (hS : va_S (fb b) s.heap H locs) (hl : lv_has ls 2 [(0, .ref (b + t)), (1, .int a1)]) : W p l e ({ frames := 1, cells := 0, slots := 0, locals := 21 } : Room) s m args below meth c H locs 0 0 (MQ below (QW G b μ (some (.int out))) args s 0 0 (fb b)) (F0 m 0 ls []) := by
  have hx := F.1
  have hb := F.2.1
  unfold sh_X3_isFirstOnPage at h
  refine lv_iload_n hx hb dX3_isFirstOnPage_0 rfl (lv_at hl 1 rfl) ?_
  refine lv_if_eq (tgt := 25) hx hb dX3_isFirstOnPage_1 (by decide) (fun cc => ?_) (fun cc => ?_)
  · replace h := (if_pos cc).symm.trans h
    refine lv_iconst (v := (1 : Int32)) hx hb dX3_isFirstOnPage_25 (by decide) ?_
    refine lv_goto (tgt := 30) hx hb dX3_isFirstOnPage_26 (by decide) ?_
    cases h
    exact r_bool F hr (Or.inr rfl) hW hS dX3_isFirstOnPage_30
  · replace h := (if_neg cc).symm.trans h
    refine lv_aload_n hx hb dX3_isFirstOnPage_4 rfl (lv_at hl 0 rfl) ?_
    refine fl_get3 (v := .ref (b + (t + 3))) (ht).1 F hW 1 (by decide) q_274 rfl rfl dX3_isFirstOnPage_5 ?_
    refine lv_iload_n hx hb dX3_isFirstOnPage_8 rfl (lv_at hl 1 rfl) ?_
    refine lv_iconst (v := (1 : Int32)) hx hb dX3_isFirstOnPage_9 (by decide) ?_
    refine lv_isub hx hb dX3_isFirstOnPage_10 ?_
    obtain ⟨r1, qr1, h⟩ := ob h
    refine k_X5_at F (ht).2.2.1 qr1 q_475 ⟨Nat.le_of_ble_eq_true rfl, Nat.le_of_ble_eq_true rfl, Nat.le_of_ble_eq_true rfl, Nat.le_of_ble_eq_true rfl⟩ hW hS hl.1 (Nat.le_of_ble_eq_true rfl) dX3_isFirstOnPage_11 (fun H locs hW hS => ?_)
    refine lv_aload_n hx hb dX3_isFirstOnPage_14 rfl (lv_at hl 0 rfl) ?_
    refine fl_get3 (v := .ref (b + (t + 3))) (ht).1 F hW 1 (by decide) q_274 rfl rfl dX3_isFirstOnPage_15 ?_
    refine lv_iload_n hx hb dX3_isFirstOnPage_18 rfl (lv_at hl 1 rfl) ?_
    obtain ⟨r2, qr2, h⟩ := ob h
    refine k_X5_at F (ht).2.2.1 qr2 q_475 ⟨Nat.le_of_ble_eq_true rfl, Nat.le_of_ble_eq_true rfl, Nat.le_of_ble_eq_true rfl, Nat.le_of_ble_eq_true rfl⟩ hW hS hl.1 (Nat.le_of_ble_eq_true rfl) dX3_isFirstOnPage_19 (fun H locs hW hS => ?_)
    refine lv_icmp_eq (tgt := 29) hx hb dX3_isFirstOnPage_22 (by decide) (fun cc => ?_) (fun cc => ?_)
    · replace h := (if_pos cc).symm.trans h
      refine lv_iconst (v := (0 : Int32)) hx hb dX3_isFirstOnPage_29 (by decide) ?_
      cases h
      exact r_bool F hr (Or.inl rfl) hW hS dX3_isFirstOnPage_30
    · replace h := (if_neg cc).symm.trans h
      refine lv_iconst (v := (1 : Int32)) hx hb dX3_isFirstOnPage_25 (by decide) ?_
      refine lv_goto (tgt := 30) hx hb dX3_isFirstOnPage_26 (by decide) ?_
      cases h
      exact r_bool F hr (Or.inr rfl) hW hS dX3_isFirstOnPage_30
set_option maxHeartbeats 4000000 in
set_option maxRecDepth 100000 in
theorem c_X3_isFirstOnPage {l : Launch} {G : Gt} {b : Nat} {t : Nat} {a1 : Int32} {μ : Mm} {out : Int32} (ht : okPz t) (h : sh_X3_isFirstOnPage t a1 μ = some out) : Met l yX3_isFirstOnPage (wU (Cond.code yX3_isFirstOnPage cX3_isFirstOnPage 2 (some .boolean))) ({ frames := 1, cells := 0, slots := 0, locals := 21 } : Room) (PcW G b μ [.ref (b + t), .int a1]) (QW G b μ (some (.int out))) 0 0 (fb b) :=
  met_of [.ref (b + t), .int a1] (by decide) (Nat.le_of_ble_eq_true rfl) (fun F hr hW hl => wk_X3_isFirstOnPage F hr ht h hW va_S.rf hl)
set_option maxHeartbeats 4000000 in
set_option maxRecDepth 100000 in
theorem k_X3_isFirstOnPage {own : String} {nL : Nat} (F : FX G b own cc nL p s m args meth c) {t : Nat} {a1 : Int32} {μ : Mm} {out : Int32} (ht : okPz t) (h : sh_X3_isFirstOnPage t a1 μ = some out) {index : Nat} (hl : Cond.methodLink own index yX3_isFirstOnPage ∈ TBG) (hR : 1 + 1 ≤ R.frames ∧ 8 + (2 + 11) + 21 ≤ R.locals ∧ cells ≤ R.cells ∧ slots ≤ R.slots) (hW : WH G b μ H) (hS : va_S (fb b) s.heap H locs) (hsz : ls.size = nL) (hrest : (rest.map fun v => v.category).sum ≤ 8) (hdg : decode cc pc = .ok (.invokevirtual index, 3))
    (kk : ∀ (H1 : Heap) (locs1 : List Loc), WH G b μ H1 → va_S (fb b) s.heap H1 locs1 → W p l e R s m args below meth c H1 locs1 cells slots Q (F0 m (pc + 3) ls (.int out :: rest))) : W p l e R s m args below meth c H locs cells slots Q (F0 m pc ls (.int a1 :: .ref (b + t) :: rest)) :=
  f_callV (As := [.int a1]) (ci := 3) (c_X3_isFirstOnPage ht h) ⟨rfl, rfl⟩ rfl (ky_lt ht.1 (by decide)) (wF_3 ht.1) q_1411 q_1412 q_11 q_1413 rfl ⟨by decide +kernel, by decide +kernel, (show (parseMethodDescriptor yX3_isFirstOnPage.desc).map (fun d => d.parameters.length) = some 1 by decide +kernel)⟩ F hl hR hW hS hsz hrest rfl hdg kk
set_option maxHeartbeats 4000000 in
set_option maxRecDepth 100000 in
theorem wk_X3_beginners_5 {n : Nat} {t : Nat} {a1 : Int32} {a2 : Int32} {μ : Mm} {out : Int32} (F : FX G b RX3 cX3_beginners 5 p s m args meth c) (hr : meth.sig.returnType = some .int) (ht : okPz t) : ∀ (f : Nat) (x3 : Int32) (x4 : Int32) (H : Heap) (locs : List Loc) (ls : Array Slot), sh_X3_beginners_5 n t a1 a2 μ f x3 x4 = some out → WH G b μ H → va_S (fb b) s.heap H locs → lv_has ls 5 [(0, .ref (b + t)), (1, .int a1), (2, .int a2), (3, .int x3), (4, .int x4)] → W p l e ({ frames := 1, cells := 0, slots := 0, locals := 21 } : Room) s m args below meth c H locs 0 0 (MQ below (QW G b μ (some (.int out))) args s 0 0 (fb b)) (F0 m 5 ls []) := by
  have hx := F.1
  have hb := F.2.1
  intro f
  induction f with
  | zero =>
    intro _ _ _ _ _ h
    rw [sh_X3_beginners_5] at h
    cases h
  | succ f ih =>
    intro x3 x4  H locs ls h hW hS hl
    rw [sh_X3_beginners_5] at h
    have hk5 := ih
    refine lv_iload hx hb dX3_beginners_5 (lv_at hl 4 rfl) ?_
    refine lv_iload_n hx hb dX3_beginners_7 rfl (lv_at hl 2 rfl) ?_
    refine lv_icmp_ge (tgt := 40) hx hb dX3_beginners_8 (by decide) (fun cc => ?_) (fun cc => ?_)
    · replace h := (if_pos cc).symm.trans h
      refine lv_iload_n hx hb dX3_beginners_40 rfl (lv_at hl 3 rfl) ?_
      cases h
      exact r_int F hr hW hS dX3_beginners_41
    · replace h := (if_neg cc).symm.trans h
      refine lv_aload_n hx hb dX3_beginners_11 rfl (lv_at hl 0 rfl) ?_
      refine fl_get3 (v := .ref (b + (t + 3))) (ht).1 F hW 1 (by decide) q_274 rfl rfl dX3_beginners_12 ?_
      refine lv_iload hx hb dX3_beginners_15 (lv_at hl 4 rfl) ?_
      obtain ⟨r1, qr1, h⟩ := ob h
      refine k_X5_at F (ht).2.2.1 qr1 q_475 ⟨Nat.le_of_ble_eq_true rfl, Nat.le_of_ble_eq_true rfl, Nat.le_of_ble_eq_true rfl, Nat.le_of_ble_eq_true rfl⟩ hW hS hl.1 (Nat.le_of_ble_eq_true rfl) dX3_beginners_17 (fun H locs hW hS => ?_)
      refine lv_aload_n hx hb dX3_beginners_20 rfl (lv_at hl 0 rfl) ?_
      refine fl_get3 (v := .ref (b + (t + 3))) (ht).1 F hW 1 (by decide) q_274 rfl rfl dX3_beginners_21 ?_
      refine lv_iload_n hx hb dX3_beginners_24 rfl (lv_at hl 1 rfl) ?_
      obtain ⟨r2, qr2, h⟩ := ob h
      refine k_X5_at F (ht).2.2.1 qr2 q_475 ⟨Nat.le_of_ble_eq_true rfl, Nat.le_of_ble_eq_true rfl, Nat.le_of_ble_eq_true rfl, Nat.le_of_ble_eq_true rfl⟩ hW hS hl.1 (Nat.le_of_ble_eq_true rfl) dX3_beginners_25 (fun H locs hW hS => ?_)
      refine lv_icmp_ne (tgt := 34) hx hb dX3_beginners_28 (by decide) (fun cc => ?_) (fun cc => ?_)
      · replace h := (if_neg cc).symm.trans h
        refine lv_iinc (v := (x4 + (1 : Int32))) (lv' := [(4, .int (x4 + (1 : Int32))), (0, .ref (b + t)), (1, .int a1), (2, .int a2), (3, .int x3)]) hx hb dX3_beginners_34 hl (k := 4) rfl rfl (by decide) rfl (fun ls hl => ?_)
        refine lv_goto (tgt := 5) hx hb dX3_beginners_37 (by decide) ?_
        exact hk5 _ _ _ _ _ h hW hS (lv_sub hl [1, 2, 3, 4, 0] rfl)
      · replace h := (if_pos cc).symm.trans h
        refine lv_iinc (v := (x3 + (1 : Int32))) (lv' := [(3, .int (x3 + (1 : Int32))), (0, .ref (b + t)), (1, .int a1), (2, .int a2), (4, .int x4)]) hx hb dX3_beginners_31 hl (k := 3) rfl rfl (by decide) rfl (fun ls hl => ?_)
        refine lv_iinc (v := (x4 + (1 : Int32))) (lv' := [(4, .int (x4 + (1 : Int32))), (3, .int (x3 + (1 : Int32))), (0, .ref (b + t)), (1, .int a1), (2, .int a2)]) hx hb dX3_beginners_34 hl (k := 4) rfl rfl (by decide) rfl (fun ls hl => ?_)
        refine lv_goto (tgt := 5) hx hb dX3_beginners_37 (by decide) ?_
        exact hk5 _ _ _ _ _ h hW hS (lv_sub hl [2, 3, 4, 1, 0] rfl)
set_option maxHeartbeats 4000000 in
set_option maxRecDepth 100000 in
theorem wk_X3_beginners {n : Nat} {t : Nat} {a1 : Int32} {a2 : Int32} {μ : Mm} {out : Int32} (F : FX G b RX3 cX3_beginners 5 p s m args meth c) (hr : meth.sig.returnType = some .int) (ht : okPz t) (h : sh_X3_beginners n t a1 a2 μ = some out) (hW : WH G b μ H) (hS : va_S (fb b) s.heap H locs) (hl : lv_has ls 5 [(0, .ref (b + t)), (1, .int a1), (2, .int a2)]) : W p l e ({ frames := 1, cells := 0, slots := 0, locals := 21 } : Room) s m args below meth c H locs 0 0 (MQ below (QW G b μ (some (.int out))) args s 0 0 (fb b)) (F0 m 0 ls []) := by
  have hx := F.1
  have hb := F.2.1
  unfold sh_X3_beginners at h
  refine lv_iconst (v := (0 : Int32)) hx hb dX3_beginners_0 (by decide) ?_
  refine lv_istore_n (lv' := [(3, .int (0 : Int32)), (0, .ref (b + t)), (1, .int a1), (2, .int a2)]) hx hb dX3_beginners_1 rfl hl (by decide) rfl (fun ls hl => ?_)
  refine lv_iconst (v := (0 : Int32)) hx hb dX3_beginners_2 (by decide) ?_
  refine lv_istore (lv' := [(4, .int (0 : Int32)), (3, .int (0 : Int32)), (0, .ref (b + t)), (1, .int a1), (2, .int a2)]) hx hb dX3_beginners_3 hl (by decide) rfl (fun ls hl => ?_)
  exact wk_X3_beginners_5 F hr ht n _ _ _ _ _ h hW hS (lv_sub hl [2, 3, 4, 1, 0] rfl)
set_option maxHeartbeats 4000000 in
set_option maxRecDepth 100000 in
theorem c_X3_beginners {l : Launch} {G : Gt} {b : Nat} {n : Nat} {t : Nat} {a1 : Int32} {a2 : Int32} {μ : Mm} {out : Int32} (ht : okPz t) (h : sh_X3_beginners n t a1 a2 μ = some out) : Met l yX3_beginners (wU (Cond.code yX3_beginners cX3_beginners 5 (some .int))) ({ frames := 1, cells := 0, slots := 0, locals := 21 } : Room) (PcW G b μ [.ref (b + t), .int a1, .int a2]) (QW G b μ (some (.int out))) 0 0 (fb b) :=
  met_of [.ref (b + t), .int a1, .int a2] (by decide) (Nat.le_of_ble_eq_true rfl) (fun F hr hW hl => wk_X3_beginners F hr ht h hW va_S.rf hl)
set_option maxHeartbeats 4000000 in
set_option maxRecDepth 100000 in
theorem k_X3_beginners {own : String} {nL : Nat} (F : FX G b own cc nL p s m args meth c) {n : Nat} {t : Nat} {a1 : Int32} {a2 : Int32} {μ : Mm} {out : Int32} (ht : okPz t) (h : sh_X3_beginners n t a1 a2 μ = some out) {index : Nat} (hl : Cond.methodLink own index yX3_beginners ∈ TBG) (hR : 1 + 1 ≤ R.frames ∧ 8 + (5 + 11) + 21 ≤ R.locals ∧ cells ≤ R.cells ∧ slots ≤ R.slots) (hW : WH G b μ H) (hS : va_S (fb b) s.heap H locs) (hsz : ls.size = nL) (hrest : (rest.map fun v => v.category).sum ≤ 8) (hdg : decode cc pc = .ok (.invokevirtual index, 3))
    (kk : ∀ (H1 : Heap) (locs1 : List Loc), WH G b μ H1 → va_S (fb b) s.heap H1 locs1 → W p l e R s m args below meth c H1 locs1 cells slots Q (F0 m (pc + 3) ls (.int out :: rest))) : W p l e R s m args below meth c H locs cells slots Q (F0 m pc ls (.int a2 :: .int a1 :: .ref (b + t) :: rest)) :=
  f_callV (As := [.int a1, .int a2]) (ci := 3) (c_X3_beginners ht h) ⟨rfl, rfl⟩ rfl (ky_lt ht.1 (by decide)) (wF_3 ht.1) q_1419 q_1420 q_11 q_1421 rfl ⟨by decide +kernel, by decide +kernel, (show (parseMethodDescriptor yX3_beginners.desc).map (fun d => d.parameters.length) = some 2 by decide +kernel)⟩ F hl hR hW hS hsz hrest rfl hdg kk
set_option maxHeartbeats 4000000 in
set_option maxRecDepth 100000 in
theorem wk_X7_firstStart {a0 : Nat} {a1 : Int32} {μ : Mm} {out : Int32} (F : FX G b RX7 cX7_firstStart 2 p s m args meth c) (hr : meth.sig.returnType = some .int) (ha0 : okBk a0) (h : sh_X7_firstStart a0 a1 μ = some out) (hW : WH G b μ H) (hS : va_S (fb b) s.heap H locs) (hl : lv_has ls 2 [(0, .ref (b + a0)), (1, .int a1)]) : W p l e ({ frames := 1, cells := 0, slots := 0, locals := 21 } : Room) s m args below meth c H locs 0 0 (MQ below (QW G b μ (some (.int out))) args s 0 0 (fb b)) (F0 m 0 ls []) := by
  have hx := F.1
  have hb := F.2.1
  unfold sh_X7_firstStart at h
  refine lv_aload_n hx hb dX7_firstStart_0 rfl (lv_at hl 0 rfl) ?_
  refine fl_get0 (v := .ref (b + (a0 + 1))) (ha0).1 F hW 0 (by decide) q_149 rfl rfl dX7_firstStart_1 ?_
  refine lv_iconst (v := (3 : Int32)) hx hb dX7_firstStart_4 (by decide) ?_
  obtain ⟨r1, qr1, h⟩ := ob h
  refine k_X5_at F (ha0).2.1 qr1 q_503 ⟨Nat.le_of_ble_eq_true rfl, Nat.le_of_ble_eq_true rfl, Nat.le_of_ble_eq_true rfl, Nat.le_of_ble_eq_true rfl⟩ hW hS hl.1 (Nat.le_of_ble_eq_true rfl) dX7_firstStart_5 (fun H locs hW hS => ?_)
  refine lv_aload_n hx hb dX7_firstStart_8 rfl (lv_at hl 0 rfl) ?_
  refine fl_get0 (v := .ref (b + (a0 + 3))) (ha0).1 F hW 4 (by decide) q_170 rfl rfl dX7_firstStart_9 ?_
  refine lv_iload_n hx hb dX7_firstStart_12 rfl (lv_at hl 1 rfl) ?_
  obtain ⟨r2, qr2, h⟩ := ob h
  refine k_X5_at F (ha0).2.2.1 qr2 q_503 ⟨Nat.le_of_ble_eq_true rfl, Nat.le_of_ble_eq_true rfl, Nat.le_of_ble_eq_true rfl, Nat.le_of_ble_eq_true rfl⟩ hW hS hl.1 (Nat.le_of_ble_eq_true rfl) dX7_firstStart_13 (fun H locs hW hS => ?_)
  refine lv_iconst (v := (1 : Int32)) hx hb dX7_firstStart_16 (by decide) ?_
  refine lv_isub hx hb dX7_firstStart_17 ?_
  refine lv_imul hx hb dX7_firstStart_18 ?_
  cases h
  exact r_int F hr hW hS dX7_firstStart_19
set_option maxHeartbeats 4000000 in
set_option maxRecDepth 100000 in
theorem c_X7_firstStart {l : Launch} {G : Gt} {b : Nat} {a0 : Nat} {a1 : Int32} {μ : Mm} {out : Int32} (ha0 : okBk a0) (h : sh_X7_firstStart a0 a1 μ = some out) : Met l yX7_firstStart (wU (Cond.code yX7_firstStart cX7_firstStart 2 (some .int))) ({ frames := 1, cells := 0, slots := 0, locals := 21 } : Room) (PcW G b μ [.ref (b + a0), .int a1]) (QW G b μ (some (.int out))) 0 0 (fb b) :=
  met_of [.ref (b + a0), .int a1] (by decide) (Nat.le_of_ble_eq_true rfl) (fun F hr hW hl => wk_X7_firstStart F hr ha0 h hW va_S.rf hl)
set_option maxHeartbeats 4000000 in
set_option maxRecDepth 100000 in
theorem k_X7_firstStart {nL : Nat} (F : FX G b RX7 cc nL p s m args meth c) {a0 : Nat} {a1 : Int32} {μ : Mm} {out : Int32} (ha0 : okBk a0) (h : sh_X7_firstStart a0 a1 μ = some out) {index : Nat} (hl : Cond.methodLink RX7 index yX7_firstStart ∈ TBG) (hR : 1 + 1 ≤ R.frames ∧ 8 + (2 + 11) + 21 ≤ R.locals ∧ cells ≤ R.cells ∧ slots ≤ R.slots) (hW : WH G b μ H) (hS : va_S (fb b) s.heap H locs) (hsz : ls.size = nL) (hrest : (rest.map fun v => v.category).sum ≤ 8) (hdg : decode cc pc = .ok (.invokestatic index, 3))
    (kk : ∀ (H1 : Heap) (locs1 : List Loc), WH G b μ H1 → va_S (fb b) s.heap H1 locs1 → W p l e R s m args below meth c H1 locs1 cells slots Q (F0 m (pc + 3) ls (.int out :: rest))) : W p l e R s m args below meth c H locs cells slots Q (F0 m pc ls (.int a1 :: .ref (b + a0) :: rest)) :=
  f_callS (As := [.ref (b + a0), .int a1]) (c_X7_firstStart ha0 h) ⟨rfl, rfl⟩ q_511 q_12 q_512 rfl ⟨by decide +kernel, by decide +kernel, (show (parseMethodDescriptor yX7_firstStart.desc).map (fun d => d.parameters.length) = some 2 by decide +kernel)⟩ F hl hR hW hS hsz hrest rfl hdg kk
set_option maxHeartbeats 4000000 in
set_option maxRecDepth 100000 in
theorem k_X7_firstStart_x {own : String} {nL : Nat} (F : FX G b own cc nL p s m args meth c) {a0 : Nat} {a1 : Int32} {μ : Mm} {out : Int32} (ha0 : okBk a0) (h : sh_X7_firstStart a0 a1 μ = some out) {index : Nat} (hl : Cond.methodLink own index yX7_firstStart ∈ TBG) (hR : 1 + 1 ≤ R.frames ∧ 8 + (2 + 11) + 21 ≤ R.locals ∧ cells ≤ R.cells ∧ slots ≤ R.slots) (hW : WH G b μ H) (hS : va_S (fb b) s.heap H locs) (hsz : ls.size = nL) (hrest : (rest.map fun v => v.category).sum ≤ 8) (hdg : decode cc pc = .ok (.invokestatic index, 3))
    (kk : ∀ (H1 : Heap) (locs1 : List Loc), WH G b μ H1 → va_S (fb b) s.heap H1 locs1 → W p l e R s m args below meth c H1 locs1 cells slots Q (F0 m (pc + 3) ls (.int out :: rest))) : W p l e R s m args below meth c H locs cells slots Q (F0 m pc ls (.int a1 :: .ref (b + a0) :: rest)) :=
  f_callSx (As := [.ref (b + a0), .int a1]) (c_X7_firstStart ha0 h) ⟨rfl, rfl⟩ q_511 q_12 q_512 ⟨by decide +kernel, by decide +kernel, (show (parseMethodDescriptor yX7_firstStart.desc).map (fun d => d.parameters.length) = some 2 by decide +kernel)⟩ F hl hR hW hS hsz hrest rfl hdg kk
set_option maxHeartbeats 4000000 in
set_option maxRecDepth 100000 in
theorem wk_X7_openLine {t : Nat} {a1 : Int32} {a2 : Int32} {a3 : Int32} {a4 : Int32} {μ : Mm} {out : Mm} (F : FX G b RX7 cX7_openLine 5 p s m args meth c) (hr : meth.sig.returnType = none) (ht : okTa t) (h : sh_X7_openLine t a1 a2 a3 a4 μ = some out) (hW : WH G b μ H) (hS : va_S (fb b) s.heap H locs) (hl : lv_has ls 5 [(0, .ref (b + t)), (1, .int a1), (2, .int a2), (3, .int a3), (4, .int a4)]) : W p l e ({ frames := 1, cells := 0, slots := 0, locals := 22 } : Room) s m args below meth c H locs 0 0 (MQ below (QW G b out none) args s 0 0 (fb b)) (F0 m 0 ls []) := by
  have hx := F.1
  have hb := F.2.1
  unfold sh_X7_openLine at h
  refine lv_aload_n hx hb dX7_openLine_0 rfl (lv_at hl 0 rfl) ?_
  refine fl_get7 (v := .ref (b + (t + 1))) (ht).1 F hW 3 (by decide) q_313 rfl rfl dX7_openLine_1 ?_
  refine lv_aload_n hx hb dX7_openLine_4 rfl (lv_at hl 0 rfl) ?_
  refine fl_get7 (v := .int (μ.1 t 2)) (ht).1 F hW 2 (by decide) q_310 rfl rfl dX7_openLine_5 ?_
  refine lv_iload_n hx hb dX7_openLine_8 rfl (lv_at hl 1 rfl) ?_
  obtain ⟨r1, qr1, h⟩ := ob h
  refine k_X5_put F (ht).2.1 qr1 q_505 ⟨Nat.le_of_ble_eq_true rfl, Nat.le_of_ble_eq_true rfl, Nat.le_of_ble_eq_true rfl, Nat.le_of_ble_eq_true rfl⟩ hW hS hl.1 (Nat.le_of_ble_eq_true rfl) dX7_openLine_9 (fun H locs hW hS => ?_)
  refine lv_aload_n hx hb dX7_openLine_12 rfl (lv_at hl 0 rfl) ?_
  refine fl_get7 (v := .ref (b + (t + 3))) (ht).1 F hW 4 (by decide) q_316 rfl rfl dX7_openLine_13 ?_
  refine lv_aload_n hx hb dX7_openLine_16 rfl (lv_at hl 0 rfl) ?_
  refine fl_get7 (v := .int (r1.1 t 2)) (ht).1 F hW 2 (by decide) q_310 rfl rfl dX7_openLine_17 ?_
  refine lv_iload_n hx hb dX7_openLine_20 rfl (lv_at hl 2 rfl) ?_
  obtain ⟨r2, qr2, h⟩ := ob h
  refine k_X5_put F (ht).2.2.1 qr2 q_505 ⟨Nat.le_of_ble_eq_true rfl, Nat.le_of_ble_eq_true rfl, Nat.le_of_ble_eq_true rfl, Nat.le_of_ble_eq_true rfl⟩ hW hS hl.1 (Nat.le_of_ble_eq_true rfl) dX7_openLine_21 (fun H locs hW hS => ?_)
  refine lv_aload_n hx hb dX7_openLine_24 rfl (lv_at hl 0 rfl) ?_
  refine fl_get7 (v := .ref (b + (t + 5))) (ht).1 F hW 5 (by decide) q_319 rfl rfl dX7_openLine_25 ?_
  refine lv_aload_n hx hb dX7_openLine_28 rfl (lv_at hl 0 rfl) ?_
  refine fl_get7 (v := .int (r2.1 t 2)) (ht).1 F hW 2 (by decide) q_310 rfl rfl dX7_openLine_29 ?_
  refine lv_iload_n hx hb dX7_openLine_32 rfl (lv_at hl 2 rfl) ?_
  refine lv_iload hx hb dX7_openLine_33 (lv_at hl 4 rfl) ?_
  refine lv_iadd hx hb dX7_openLine_35 ?_
  obtain ⟨r3, qr3, h⟩ := ob h
  refine k_X5_put F (ht).2.2.2.1 qr3 q_505 ⟨Nat.le_of_ble_eq_true rfl, Nat.le_of_ble_eq_true rfl, Nat.le_of_ble_eq_true rfl, Nat.le_of_ble_eq_true rfl⟩ hW hS hl.1 (Nat.le_of_ble_eq_true rfl) dX7_openLine_36 (fun H locs hW hS => ?_)
  refine lv_aload_n hx hb dX7_openLine_39 rfl (lv_at hl 0 rfl) ?_
  refine fl_get7 (v := .ref (b + (t + 7))) (ht).1 F hW 6 (by decide) q_321 rfl rfl dX7_openLine_40 ?_
  refine lv_aload_n hx hb dX7_openLine_43 rfl (lv_at hl 0 rfl) ?_
  refine fl_get7 (v := .int (r3.1 t 2)) (ht).1 F hW 2 (by decide) q_310 rfl rfl dX7_openLine_44 ?_
  refine lv_iconst (v := (1 : Int32)) hx hb dX7_openLine_47 (by decide) ?_
  obtain ⟨r4, qr4, h⟩ := ob h
  refine k_X5_put F (ht).2.2.2.2.1 qr4 q_505 ⟨Nat.le_of_ble_eq_true rfl, Nat.le_of_ble_eq_true rfl, Nat.le_of_ble_eq_true rfl, Nat.le_of_ble_eq_true rfl⟩ hW hS hl.1 (Nat.le_of_ble_eq_true rfl) dX7_openLine_48 (fun H locs hW hS => ?_)
  refine lv_aload_n hx hb dX7_openLine_51 rfl (lv_at hl 0 rfl) ?_
  refine fl_get7 (v := .ref (b + (t + 9))) (ht).1 F hW 7 (by decide) q_324 rfl rfl dX7_openLine_52 ?_
  refine lv_aload_n hx hb dX7_openLine_55 rfl (lv_at hl 0 rfl) ?_
  refine fl_get7 (v := .int (r4.1 t 2)) (ht).1 F hW 2 (by decide) q_310 rfl rfl dX7_openLine_56 ?_
  refine lv_iload_n hx hb dX7_openLine_59 rfl (lv_at hl 3 rfl) ?_
  obtain ⟨r5, qr5, h⟩ := ob h
  refine k_X5_put F (ht).2.2.2.2.2.1 qr5 q_505 ⟨Nat.le_of_ble_eq_true rfl, Nat.le_of_ble_eq_true rfl, Nat.le_of_ble_eq_true rfl, Nat.le_of_ble_eq_true rfl⟩ hW hS hl.1 (Nat.le_of_ble_eq_true rfl) dX7_openLine_60 (fun H locs hW hS => ?_)
  refine lv_aload_n hx hb dX7_openLine_63 rfl (lv_at hl 0 rfl) ?_
  refine lv_dup hx hb dX7_openLine_64 rfl ?_
  refine fl_get7 (v := .int (r5.1 t 2)) (ht).1 F hW 2 (by decide) q_310 rfl rfl dX7_openLine_65 ?_
  refine lv_iconst (v := (1 : Int32)) hx hb dX7_openLine_68 (by decide) ?_
  refine lv_iadd hx hb dX7_openLine_69 ?_
  obtain ⟨μ6, hmμ6, h⟩ := ob h
  refine fl_put7_2 (ht).1 F hW hS q_310 hmμ6 dX7_openLine_70 (fun H locs hW hS => ?_)
  cases h
  exact r_void F hr hW hS dX7_openLine_73
set_option maxHeartbeats 4000000 in
set_option maxRecDepth 100000 in
theorem c_X7_openLine {l : Launch} {G : Gt} {b : Nat} {t : Nat} {a1 : Int32} {a2 : Int32} {a3 : Int32} {a4 : Int32} {μ : Mm} {out : Mm} (ht : okTa t) (h : sh_X7_openLine t a1 a2 a3 a4 μ = some out) : Met l yX7_openLine (wU (Cond.code yX7_openLine cX7_openLine 5 none)) ({ frames := 1, cells := 0, slots := 0, locals := 22 } : Room) (PcW G b μ [.ref (b + t), .int a1, .int a2, .int a3, .int a4]) (QW G b out none) 0 0 (fb b) :=
  met_of [.ref (b + t), .int a1, .int a2, .int a3, .int a4] (by decide) (Nat.le_of_ble_eq_true rfl) (fun F hr hW hl => wk_X7_openLine F hr ht h hW va_S.rf hl)
set_option maxHeartbeats 4000000 in
set_option maxRecDepth 100000 in
theorem k_X7_openLine {own : String} {nL : Nat} (F : FX G b own cc nL p s m args meth c) {t : Nat} {a1 : Int32} {a2 : Int32} {a3 : Int32} {a4 : Int32} {μ : Mm} {out : Mm} (ht : okTa t) (h : sh_X7_openLine t a1 a2 a3 a4 μ = some out) {index : Nat} (hl : Cond.methodLink own index yX7_openLine ∈ TBG) (hR : 1 + 1 ≤ R.frames ∧ 8 + (5 + 11) + 22 ≤ R.locals ∧ cells ≤ R.cells ∧ slots ≤ R.slots) (hW : WH G b μ H) (hS : va_S (fb b) s.heap H locs) (hsz : ls.size = nL) (hrest : (rest.map fun v => v.category).sum ≤ 8) (hdg : decode cc pc = .ok (.invokevirtual index, 3))
    (kk : ∀ (H1 : Heap) (locs1 : List Loc), WH G b out H1 → va_S (fb b) s.heap H1 locs1 → W p l e R s m args below meth c H1 locs1 cells slots Q (F0 m (pc + 3) ls (rest))) : W p l e R s m args below meth c H locs cells slots Q (F0 m pc ls (.int a4 :: .int a3 :: .int a2 :: .int a1 :: .ref (b + t) :: rest)) :=
  f_callV (As := [.int a1, .int a2, .int a3, .int a4]) (ci := 7) (c_X7_openLine ht h) ⟨rfl, rfl⟩ rfl (ky_lt ht.1 (by decide)) (wF_7 ht.1) q_516 qp_5 q_12 q_517 rfl ⟨by decide +kernel, by decide +kernel, (show (parseMethodDescriptor yX7_openLine.desc).map (fun d => d.parameters.length) = some 4 by decide +kernel)⟩ F hl hR hW hS hsz hrest rfl hdg kk
set_option maxHeartbeats 4000000 in
set_option maxRecDepth 100000 in
theorem wk_X7_layTokens_10 {n : Nat} {t : Nat} {a1 : Nat} {a2 : Nat} {a3 : Int32} {out : Mm} (F : FX G b RX7 cX7_layTokens 9 p s m args meth c) (hr : meth.sig.returnType = none) (ht : okTa t) (ha1 : okBk a1) (ha2 : okMz a2) : ∀ (f : Nat) (x4 : Int32) (x5 : Int32) (μ : Mm) (H : Heap) (locs : List Loc) (ls : Array Slot), sh_X7_layTokens_10 n t a1 a2 a3 f x4 x5 μ = some out → WH G b μ H → va_S (fb b) s.heap H locs → lv_has ls 9 [(0, .ref (b + t)), (1, .ref (b + a1)), (2, .ref (b + a2)), (3, .int a3), (4, .int x4), (5, .int x5)] → W p l e ({ frames := 2, cells := 0, slots := 0, locals := 46 } : Room) s m args below meth c H locs 0 0 (MQ below (QW G b out none) args s 0 0 (fb b)) (F0 m 10 ls []) := by
  have hx := F.1
  have hb := F.2.1
  intro f
  induction f with
  | zero =>
    intro _ _ _ _ _ _ h
    rw [sh_X7_layTokens_10] at h
    cases h
  | succ f ih =>
    intro x4 x5 μ H locs ls h hW hS hl
    rw [sh_X7_layTokens_10] at h
    have hk10 := ih
    refine lv_iload hx hb dX7_layTokens_10 (lv_at hl 5 rfl) ?_
    refine lv_aload_n hx hb dX7_layTokens_12 rfl (lv_at hl 1 rfl) ?_
    refine fl_get0 (v := .ref (b + (a1 + 7))) (ha1).1 F hW 6 (by decide) q_182 rfl rfl dX7_layTokens_13 ?_
    refine lv_iload_n hx hb dX7_layTokens_16 rfl (lv_at hl 3 rfl) ?_
    obtain ⟨r2, qr2, h⟩ := ob h
    refine k_X5_at F (ha1).2.2.2.2.1 qr2 q_503 ⟨Nat.le_of_ble_eq_true rfl, Nat.le_of_ble_eq_true rfl, Nat.le_of_ble_eq_true rfl, Nat.le_of_ble_eq_true rfl⟩ hW hS hl.1 (Nat.le_of_ble_eq_true rfl) dX7_layTokens_17 (fun H locs hW hS => ?_)
    refine lv_icmp_ge (tgt := 145) hx hb dX7_layTokens_20 (by decide) (fun cc => ?_) (fun cc => ?_)
    · replace h := (if_pos cc).symm.trans h
      cases h
      exact r_void F hr hW hS dX7_layTokens_145
    · replace h := (if_neg cc).symm.trans h
      refine lv_aload_n hx hb dX7_layTokens_23 rfl (lv_at hl 2 rfl) ?_
      refine fl_get2 (v := .ref (b + (a2 + 9))) (ha2).1 F hW 4 (by decide) q_247 rfl rfl dX7_layTokens_24 ?_
      refine lv_iload_n hx hb dX7_layTokens_27 rfl (lv_at hl 3 rfl) ?_
      refine lv_bipush (v := (8 : Int32)) hx hb dX7_layTokens_28 (by decide) ?_
      refine lv_imul hx hb dX7_layTokens_30 ?_
      refine lv_iload hx hb dX7_layTokens_31 (lv_at hl 5 rfl) ?_
      refine lv_iadd hx hb dX7_layTokens_33 ?_
      obtain ⟨r3, qr3, h⟩ := ob h
      refine k_X5_at F (ha2).2.2.2.2.2.1 qr3 q_503 ⟨Nat.le_of_ble_eq_true rfl, Nat.le_of_ble_eq_true rfl, Nat.le_of_ble_eq_true rfl, Nat.le_of_ble_eq_true rfl⟩ hW hS hl.1 (Nat.le_of_ble_eq_true rfl) dX7_layTokens_34 (fun H locs hW hS => ?_)
      refine lv_istore (lv' := [(6, .int r3), (0, .ref (b + t)), (1, .ref (b + a1)), (2, .ref (b + a2)), (3, .int a3), (4, .int x4), (5, .int x5)]) hx hb dX7_layTokens_37 hl (by decide) rfl (fun ls hl => ?_)
      refine lv_aload_n hx hb dX7_layTokens_39 rfl (lv_at hl 1 rfl) ?_
      refine fl_get7 (v := .int (μ.1 t 2)) (ht).1 F hW 2 (by decide) q_310 rfl rfl dX7_layTokens_40 ?_
      refine lv_iconst (v := (1 : Int32)) hx hb dX7_layTokens_43 (by decide) ?_
      refine lv_isub hx hb dX7_layTokens_44 ?_
      obtain ⟨v4, ev4⟩ : ∃ y, y = ((μ.1 t 2) - (1 : Int32)) := ⟨_, rfl⟩
      have h := nm_at ev4 h
      rw [← ev4]
      refine lv_istore (lv' := [(7, .int v4), (6, .int r3), (0, .ref (b + t)), (1, .ref (b + a1)), (2, .ref (b + a2)), (3, .int a3), (4, .int x4), (5, .int x5)]) hx hb dX7_layTokens_45 hl (by decide) rfl (fun ls hl => ?_)
      refine lv_aload_n hx hb dX7_layTokens_47 rfl (lv_at hl 2 rfl) ?_
      refine fl_get7 (v := .ref (b + (t + 5))) (ht).1 F hW 5 (by decide) q_319 rfl rfl dX7_layTokens_48 ?_
      refine lv_iload hx hb dX7_layTokens_51 (lv_at hl 0 rfl) ?_
      obtain ⟨r5, qr5, h⟩ := ob h
      refine k_X5_at F (ht).2.2.2.1 qr5 q_503 ⟨Nat.le_of_ble_eq_true rfl, Nat.le_of_ble_eq_true rfl, Nat.le_of_ble_eq_true rfl, Nat.le_of_ble_eq_true rfl⟩ hW hS hl.1 (Nat.le_of_ble_eq_true rfl) dX7_layTokens_53 (fun H locs hW hS => ?_)
      refine lv_bipush (v := (32 : Int32)) hx hb dX7_layTokens_56 (by decide) ?_
      obtain ⟨r6, qr6, h⟩ := ob h
      refine k_X11_signWidth_n F qr6 (by decide +kernel) ⟨Nat.le_of_ble_eq_true rfl, Nat.le_of_ble_eq_true rfl, Nat.le_of_ble_eq_true rfl, Nat.le_of_ble_eq_true rfl⟩ hW hS hl.1 (Nat.le_of_ble_eq_true rfl) dX7_layTokens_58 (fun H locs hW hS => ?_)
      refine lv_iadd hx hb dX7_layTokens_61 ?_
      refine lv_iload hx hb dX7_layTokens_62 (lv_at hl 1 rfl) ?_
      refine lv_iadd hx hb dX7_layTokens_64 ?_
      obtain ⟨v7, ev7⟩ : ∃ y, y = ((r5 + r6) + r3) := ⟨_, rfl⟩
      have h := nm_at ev7 h
      rw [← ev7]
      refine lv_istore (lv' := [(8, .int v7), (7, .int v4), (6, .int r3), (0, .ref (b + t)), (1, .ref (b + a1)), (2, .ref (b + a2)), (3, .int a3), (4, .int x4), (5, .int x5)]) hx hb dX7_layTokens_65 hl (by decide) rfl (fun ls hl => ?_)
      refine lv_iload hx hb dX7_layTokens_67 (lv_at hl 8 rfl) ?_
      refine lv_if_ne (tgt := 86) hx hb dX7_layTokens_69 (by decide) (fun cc => ?_) (fun cc => ?_)
      · replace h := (if_neg cc).symm.trans h
        refine lv_iload hx hb dX7_layTokens_86 (lv_at hl 0 rfl) ?_
        refine lv_aload_n hx hb dX7_layTokens_88 rfl (lv_at hl 3 rfl) ?_
        refine fl_get7 (v := .int (μ.1 t 1)) (ht).1 F hW 1 (by decide) q_308 rfl rfl dX7_layTokens_89 ?_
        refine lv_icmp_gt (tgt := 119) hx hb dX7_layTokens_92 (by decide) (fun cc => ?_) (fun cc => ?_)
        · replace h := (if_pos cc).symm.trans h
          refine lv_aload_n hx hb dX7_layTokens_119 rfl (lv_at hl 3 rfl) ?_
          refine lv_iload_n hx hb dX7_layTokens_120 rfl (lv_at hl 6 rfl) ?_
          refine lv_iload hx hb dX7_layTokens_121 (lv_at hl 7 rfl) ?_
          refine lv_aload_n hx hb dX7_layTokens_123 rfl (lv_at hl 4 rfl) ?_
          refine fl_get0 (v := .ref (b + (a1 + 1))) (ha1).1 F hW 0 (by decide) q_149 rfl rfl dX7_layTokens_124 ?_
          refine lv_iconst (v := (4 : Int32)) hx hb dX7_layTokens_127 (by decide) ?_
          obtain ⟨r8, qr8, h⟩ := ob h
          refine k_X5_at F (ha1).2.1 qr8 q_503 ⟨Nat.le_of_ble_eq_true rfl, Nat.le_of_ble_eq_true rfl, Nat.le_of_ble_eq_true rfl, Nat.le_of_ble_eq_true rfl⟩ hW hS hl.1 (Nat.le_of_ble_eq_true rfl) dX7_layTokens_128 (fun H locs hW hS => ?_)
          refine lv_iadd hx hb dX7_layTokens_131 ?_
          refine lv_iload hx hb dX7_layTokens_132 (lv_at hl 8 rfl) ?_
          refine lv_iload hx hb dX7_layTokens_134 (lv_at hl 2 rfl) ?_
          obtain ⟨r9, qr9, h⟩ := ob h
          refine k_X7_openLine F ht qr9 q_514 ⟨Nat.le_of_ble_eq_true rfl, Nat.le_of_ble_eq_true rfl, Nat.le_of_ble_eq_true rfl, Nat.le_of_ble_eq_true rfl⟩ hW hS hl.1 (Nat.le_of_ble_eq_true rfl) dX7_layTokens_136 (fun H locs hW hS => ?_)
          refine lv_iinc (v := (x5 + (1 : Int32))) (lv' := [(5, .int (x5 + (1 : Int32))), (8, .int v7), (7, .int v4), (6, .int r3), (0, .ref (b + t)), (1, .ref (b + a1)), (2, .ref (b + a2)), (3, .int a3), (4, .int x4)]) hx hb dX7_layTokens_139 hl (k := 8) rfl rfl (by decide) rfl (fun ls hl => ?_)
          refine lv_goto (tgt := 10) hx hb dX7_layTokens_142 (by decide) ?_
          exact hk10 _ _ _ _ _ _ h hW hS (lv_sub hl [4, 5, 6, 7, 8, 0] rfl)
        · replace h := (if_neg cc).symm.trans h
          refine lv_aload_n hx hb dX7_layTokens_95 rfl (lv_at hl 3 rfl) ?_
          refine fl_get7 (v := .ref (b + (t + 5))) (ht).1 F hW 5 (by decide) q_319 rfl rfl dX7_layTokens_96 ?_
          refine lv_iload hx hb dX7_layTokens_99 (lv_at hl 1 rfl) ?_
          refine lv_iload hx hb dX7_layTokens_101 (lv_at hl 0 rfl) ?_
          obtain ⟨r10, qr10, h⟩ := ob h
          refine k_X5_put F (ht).2.2.2.1 qr10 q_505 ⟨Nat.le_of_ble_eq_true rfl, Nat.le_of_ble_eq_true rfl, Nat.le_of_ble_eq_true rfl, Nat.le_of_ble_eq_true rfl⟩ hW hS hl.1 (Nat.le_of_ble_eq_true rfl) dX7_layTokens_103 (fun H locs hW hS => ?_)
          refine lv_aload_n hx hb dX7_layTokens_106 rfl (lv_at hl 3 rfl) ?_
          refine fl_get7 (v := .ref (b + (t + 7))) (ht).1 F hW 6 (by decide) q_321 rfl rfl dX7_layTokens_107 ?_
          refine lv_iload hx hb dX7_layTokens_110 (lv_at hl 1 rfl) ?_
          refine lv_iconst (v := (1 : Int32)) hx hb dX7_layTokens_112 (by decide) ?_
          obtain ⟨r11, qr11, h⟩ := ob h
          refine k_X5_add F (ht).2.2.2.2.1 qr11 q_518 ⟨Nat.le_of_ble_eq_true rfl, Nat.le_of_ble_eq_true rfl, Nat.le_of_ble_eq_true rfl, Nat.le_of_ble_eq_true rfl⟩ hW hS hl.1 (Nat.le_of_ble_eq_true rfl) dX7_layTokens_113 (fun H locs hW hS => ?_)
          refine lv_goto (tgt := 139) hx hb dX7_layTokens_116 (by decide) ?_
          refine lv_iinc (v := (x5 + (1 : Int32))) (lv' := [(5, .int (x5 + (1 : Int32))), (8, .int v7), (7, .int v4), (6, .int r3), (0, .ref (b + t)), (1, .ref (b + a1)), (2, .ref (b + a2)), (3, .int a3), (4, .int x4)]) hx hb dX7_layTokens_139 hl (k := 8) rfl rfl (by decide) rfl (fun ls hl => ?_)
          refine lv_goto (tgt := 10) hx hb dX7_layTokens_142 (by decide) ?_
          exact hk10 _ _ _ _ _ _ h hW hS (lv_sub hl [4, 5, 6, 7, 8, 0] rfl)
      · replace h := (if_pos cc).symm.trans h
        refine lv_aload_n hx hb dX7_layTokens_72 rfl (lv_at hl 3 rfl) ?_
        refine lv_iload_n hx hb dX7_layTokens_73 rfl (lv_at hl 6 rfl) ?_
        refine lv_iload hx hb dX7_layTokens_74 (lv_at hl 7 rfl) ?_
        refine lv_iload hx hb dX7_layTokens_76 (lv_at hl 8 rfl) ?_
        refine lv_iload hx hb dX7_layTokens_78 (lv_at hl 2 rfl) ?_
        obtain ⟨r12, qr12, h⟩ := ob h
        refine k_X7_openLine F ht qr12 q_514 ⟨Nat.le_of_ble_eq_true rfl, Nat.le_of_ble_eq_true rfl, Nat.le_of_ble_eq_true rfl, Nat.le_of_ble_eq_true rfl⟩ hW hS hl.1 (Nat.le_of_ble_eq_true rfl) dX7_layTokens_80 (fun H locs hW hS => ?_)
        refine lv_goto (tgt := 139) hx hb dX7_layTokens_83 (by decide) ?_
        refine lv_iinc (v := (x5 + (1 : Int32))) (lv' := [(5, .int (x5 + (1 : Int32))), (8, .int v7), (7, .int v4), (6, .int r3), (0, .ref (b + t)), (1, .ref (b + a1)), (2, .ref (b + a2)), (3, .int a3), (4, .int x4)]) hx hb dX7_layTokens_139 hl (k := 8) rfl rfl (by decide) rfl (fun ls hl => ?_)
        refine lv_goto (tgt := 10) hx hb dX7_layTokens_142 (by decide) ?_
        exact hk10 _ _ _ _ _ _ h hW hS (lv_sub hl [4, 5, 6, 7, 8, 0] rfl)
set_option maxHeartbeats 4000000 in
set_option maxRecDepth 100000 in
theorem wk_X7_layTokens {n : Nat} {t : Nat} {a1 : Nat} {a2 : Nat} {a3 : Int32} {μ : Mm} {out : Mm} (F : FX G b RX7 cX7_layTokens 9 p s m args meth c) (hr : meth.sig.returnType = none) (ht : okTa t) (ha1 : okBk a1) (ha2 : okMz a2) (h : sh_X7_layTokens n t a1 a2 a3 μ = some out) (hW : WH G b μ H) (hS : va_S (fb b) s.heap H locs) (hl : lv_has ls 9 [(0, .ref (b + t)), (1, .ref (b + a1)), (2, .ref (b + a2)), (3, .int a3)]) : W p l e ({ frames := 2, cells := 0, slots := 0, locals := 46 } : Room) s m args below meth c H locs 0 0 (MQ below (QW G b out none) args s 0 0 (fb b)) (F0 m 0 ls []) := by
  have hx := F.1
  have hb := F.2.1
  unfold sh_X7_layTokens at h
  refine lv_aload_n hx hb dX7_layTokens_0 rfl (lv_at hl 1 rfl) ?_
  refine lv_iload_n hx hb dX7_layTokens_1 rfl (lv_at hl 3 rfl) ?_
  obtain ⟨r1, qr1, h⟩ := ob h
  refine k_X7_firstStart F ha1 qr1 q_510 ⟨Nat.le_of_ble_eq_true rfl, Nat.le_of_ble_eq_true rfl, Nat.le_of_ble_eq_true rfl, Nat.le_of_ble_eq_true rfl⟩ hW hS hl.1 (Nat.le_of_ble_eq_true rfl) dX7_layTokens_2 (fun H locs hW hS => ?_)
  refine lv_istore (lv' := [(4, .int r1), (0, .ref (b + t)), (1, .ref (b + a1)), (2, .ref (b + a2)), (3, .int a3)]) hx hb dX7_layTokens_5 hl (by decide) rfl (fun ls hl => ?_)
  refine lv_iconst (v := (0 : Int32)) hx hb dX7_layTokens_7 (by decide) ?_
  refine lv_istore (lv' := [(5, .int (0 : Int32)), (4, .int r1), (0, .ref (b + t)), (1, .ref (b + a1)), (2, .ref (b + a2)), (3, .int a3)]) hx hb dX7_layTokens_8 hl (by decide) rfl (fun ls hl => ?_)
  exact wk_X7_layTokens_10 F hr ht ha1 ha2 n _ _ _ _ _ _ h hW hS (lv_sub hl [2, 3, 4, 5, 1, 0] rfl)
set_option maxHeartbeats 4000000 in
set_option maxRecDepth 100000 in
theorem c_X7_layTokens {l : Launch} {G : Gt} {b : Nat} {n : Nat} {t : Nat} {a1 : Nat} {a2 : Nat} {a3 : Int32} {μ : Mm} {out : Mm} (ht : okTa t) (ha1 : okBk a1) (ha2 : okMz a2) (h : sh_X7_layTokens n t a1 a2 a3 μ = some out) : Met l yX7_layTokens (wU (Cond.code yX7_layTokens cX7_layTokens 9 none)) ({ frames := 2, cells := 0, slots := 0, locals := 46 } : Room) (PcW G b μ [.ref (b + t), .ref (b + a1), .ref (b + a2), .int a3]) (QW G b out none) 0 0 (fb b) :=
  met_of [.ref (b + t), .ref (b + a1), .ref (b + a2), .int a3] (by decide) (Nat.le_of_ble_eq_true rfl) (fun F hr hW hl => wk_X7_layTokens F hr ht ha1 ha2 h hW va_S.rf hl)
set_option maxHeartbeats 4000000 in
set_option maxRecDepth 100000 in
theorem k_X7_layTokens {own : String} {nL : Nat} (F : FX G b own cc nL p s m args meth c) {n : Nat} {t : Nat} {a1 : Nat} {a2 : Nat} {a3 : Int32} {μ : Mm} {out : Mm} (ht : okTa t) (ha1 : okBk a1) (ha2 : okMz a2) (h : sh_X7_layTokens n t a1 a2 a3 μ = some out) {index : Nat} (hl : Cond.methodLink own index yX7_layTokens ∈ TBG) (hR : 2 + 1 ≤ R.frames ∧ 8 + (9 + 11) + 46 ≤ R.locals ∧ cells ≤ R.cells ∧ slots ≤ R.slots) (hW : WH G b μ H) (hS : va_S (fb b) s.heap H locs) (hsz : ls.size = nL) (hrest : (rest.map fun v => v.category).sum ≤ 8) (hdg : decode cc pc = .ok (.invokevirtual index, 3))
    (kk : ∀ (H1 : Heap) (locs1 : List Loc), WH G b out H1 → va_S (fb b) s.heap H1 locs1 → W p l e R s m args below meth c H1 locs1 cells slots Q (F0 m (pc + 3) ls (rest))) : W p l e R s m args below meth c H locs cells slots Q (F0 m pc ls (.int a3 :: .ref (b + a2) :: .ref (b + a1) :: .ref (b + t) :: rest)) :=
  f_callV (As := [.ref (b + a1), .ref (b + a2), .int a3]) (ci := 7) (c_X7_layTokens ht ha1 ha2 h) ⟨rfl, rfl⟩ rfl (ky_lt ht.1 (by decide)) (wF_7 ht.1) q_508 qp_4 q_12 q_509 rfl ⟨by decide +kernel, by decide +kernel, (show (parseMethodDescriptor yX7_layTokens.desc).map (fun d => d.parameters.length) = some 3 by decide +kernel)⟩ F hl hR hW hS hsz hrest rfl hdg kk
set_option maxHeartbeats 4000000 in
set_option maxRecDepth 100000 in
theorem wk_X7_layDots_94 {t : Nat} {a1 : Nat} {a2 : Int32} {a3 : Int32} {x5 : Int32} {x6 : Int32} {x7 : Int32} {x8 : Int32} {s1 : Int32} {s2 : Int32} {μ : Mm} {out : Mm} (F : FX G b RX7 cX7_layDots 9 p s m args meth c) (hr : meth.sig.returnType = none) (ht : okTa t) (ha1 : okBk a1) (h : sh_X7_layDots_94 t a1 a2 a3 x5 x6 x7 x8 s1 s2 μ = some out) (hW : WH G b μ H) (hS : va_S (fb b) s.heap H locs) (hl : lv_has ls 9 [(0, .ref (b + t)), (2, .int a2), (5, .int x5), (6, .int x6), (7, .int x7), (8, .int x8)]) : W p l e ({ frames := 1, cells := 0, slots := 0, locals := 22 } : Room) s m args below meth c H locs 0 0 (MQ below (QW G b out none) args s 0 0 (fb b)) (F0 m 94 ls [.int s2, .int s1, .ref (b + (t + 15))]) := by
  have hx := F.1
  have hb := F.2.1
  unfold sh_X7_layDots_94 at h
  obtain ⟨r8, qr8, h⟩ := ob h
  refine k_X5_put F (ht).2.2.2.2.2.2.2.2.1 qr8 q_505 ⟨Nat.le_of_ble_eq_true rfl, Nat.le_of_ble_eq_true rfl, Nat.le_of_ble_eq_true rfl, Nat.le_of_ble_eq_true rfl⟩ hW hS hl.1 (Nat.le_of_ble_eq_true rfl) dX7_layDots_94 (fun H locs hW hS => ?_)
  refine lv_aload_n hx hb dX7_layDots_97 rfl (lv_at hl 0 rfl) ?_
  refine fl_get7 (v := .ref (b + (t + 17))) (ht).1 F hW 11 (by decide) q_332 rfl rfl dX7_layDots_98 ?_
  refine lv_iload_n hx hb dX7_layDots_101 rfl (lv_at hl 1 rfl) ?_
  refine lv_iload hx hb dX7_layDots_102 (lv_at hl 5 rfl) ?_
  refine lv_if_eq (tgt := 111) hx hb dX7_layDots_104 (by decide) (fun cc => ?_) (fun cc => ?_)
  · replace h := (if_pos cc).symm.trans h
    refine lv_iload hx hb dX7_layDots_111 (lv_at hl 4 rfl) ?_
    refine lv_iload hx hb dX7_layDots_113 (lv_at hl 3 rfl) ?_
    refine lv_isub hx hb dX7_layDots_115 ?_
    refine lv_iload hx hb dX7_layDots_116 (lv_at hl 2 rfl) ?_
    obtain ⟨r9, qr9, h⟩ := ob h
    refine k_X11_quotient_n F qr9 (by decide +kernel) ⟨Nat.le_of_ble_eq_true rfl, Nat.le_of_ble_eq_true rfl, Nat.le_of_ble_eq_true rfl, Nat.le_of_ble_eq_true rfl⟩ hW hS hl.1 (Nat.le_of_ble_eq_true rfl) dX7_layDots_118 (fun H locs hW hS => ?_)
    refine lv_iconst (v := (1 : Int32)) hx hb dX7_layDots_121 (by decide) ?_
    refine lv_iadd hx hb dX7_layDots_122 ?_
    obtain ⟨r10, qr10, h⟩ := ob h
    refine k_X5_put F (ht).2.2.2.2.2.2.2.2.2 qr10 q_505 ⟨Nat.le_of_ble_eq_true rfl, Nat.le_of_ble_eq_true rfl, Nat.le_of_ble_eq_true rfl, Nat.le_of_ble_eq_true rfl⟩ hW hS hl.1 (Nat.le_of_ble_eq_true rfl) dX7_layDots_123 (fun H locs hW hS => ?_)
    cases h
    exact r_void F hr hW hS dX7_layDots_126
  · replace h := (if_neg cc).symm.trans h
    refine lv_iconst (v := (0 : Int32)) hx hb dX7_layDots_107 (by decide) ?_
    refine lv_goto (tgt := 123) hx hb dX7_layDots_108 (by decide) ?_
    obtain ⟨r11, qr11, h⟩ := ob h
    refine k_X5_put F (ht).2.2.2.2.2.2.2.2.2 qr11 q_505 ⟨Nat.le_of_ble_eq_true rfl, Nat.le_of_ble_eq_true rfl, Nat.le_of_ble_eq_true rfl, Nat.le_of_ble_eq_true rfl⟩ hW hS hl.1 (Nat.le_of_ble_eq_true rfl) dX7_layDots_123 (fun H locs hW hS => ?_)
    cases h
    exact r_void F hr hW hS dX7_layDots_126
set_option maxHeartbeats 4000000 in
set_option maxRecDepth 100000 in
theorem wk_X7_layDots_76 {t : Nat} {a1 : Nat} {a2 : Int32} {a3 : Int32} {x5 : Int32} {x6 : Int32} {x7 : Int32} {s0 : Int32} {μ : Mm} {out : Mm} (F : FX G b RX7 cX7_layDots 9 p s m args meth c) (hr : meth.sig.returnType = none) (ht : okTa t) (ha1 : okBk a1) (h : sh_X7_layDots_76 t a1 a2 a3 x5 x6 x7 s0 μ = some out) (hW : WH G b μ H) (hS : va_S (fb b) s.heap H locs) (hl : lv_has ls 9 [(0, .ref (b + t)), (2, .int a2), (5, .int x5), (6, .int x6), (7, .int x7)]) : W p l e ({ frames := 1, cells := 0, slots := 0, locals := 22 } : Room) s m args below meth c H locs 0 0 (MQ below (QW G b out none) args s 0 0 (fb b)) (F0 m 76 ls [.int s0]) := by
  have hx := F.1
  have hb := F.2.1
  unfold sh_X7_layDots_76 at h
  refine lv_istore (lv' := [(8, .int s0), (0, .ref (b + t)), (2, .int a2), (5, .int x5), (6, .int x6), (7, .int x7)]) hx hb dX7_layDots_76 hl (by decide) rfl (fun ls hl => ?_)
  refine lv_aload_n hx hb dX7_layDots_78 rfl (lv_at hl 1 rfl) ?_
  refine fl_get7 (v := .ref (b + (t + 15))) (ht).1 F hW 10 (by decide) q_330 rfl rfl dX7_layDots_79 ?_
  refine lv_iload_n hx hb dX7_layDots_82 rfl (lv_at hl 2 rfl) ?_
  refine lv_iload hx hb dX7_layDots_83 (lv_at hl 0 rfl) ?_
  refine lv_if_eq (tgt := 92) hx hb dX7_layDots_85 (by decide) (fun cc => ?_) (fun cc => ?_)
  · replace h := (if_pos cc).symm.trans h
    refine lv_iload hx hb dX7_layDots_92 (lv_at hl 4 rfl) ?_
    exact wk_X7_layDots_94 F hr ht ha1 h hW hS (lv_sub hl [1, 2, 3, 4, 5, 0] rfl)
  · replace h := (if_neg cc).symm.trans h
    refine lv_iconst (v := (-1 : Int32)) hx hb dX7_layDots_88 (by decide) ?_
    refine lv_goto (tgt := 94) hx hb dX7_layDots_89 (by decide) ?_
    exact wk_X7_layDots_94 F hr ht ha1 h hW hS (lv_sub hl [1, 2, 3, 4, 5, 0] rfl)
set_option maxHeartbeats 4000000 in
set_option maxRecDepth 100000 in
theorem wk_X7_layDots {t : Nat} {a1 : Nat} {a2 : Int32} {a3 : Int32} {μ : Mm} {out : Mm} (F : FX G b RX7 cX7_layDots 9 p s m args meth c) (hr : meth.sig.returnType = none) (ht : okTa t) (ha1 : okBk a1) (h : sh_X7_layDots t a1 a2 a3 μ = some out) (hW : WH G b μ H) (hS : va_S (fb b) s.heap H locs) (hl : lv_has ls 9 [(0, .ref (b + t)), (1, .ref (b + a1)), (2, .int a2), (3, .int a3)]) : W p l e ({ frames := 1, cells := 0, slots := 0, locals := 22 } : Room) s m args below meth c H locs 0 0 (MQ below (QW G b out none) args s 0 0 (fb b)) (F0 m 0 ls []) := by
  have hx := F.1
  have hb := F.2.1
  unfold sh_X7_layDots at h
  refine lv_aload_n hx hb dX7_layDots_0 rfl (lv_at hl 1 rfl) ?_
  refine fl_get0 (v := .ref (b + (a1 + 1))) (ha1).1 F hW 0 (by decide) q_149 rfl rfl dX7_layDots_1 ?_
  refine lv_iconst (v := (5 : Int32)) hx hb dX7_layDots_4 (by decide) ?_
  obtain ⟨r1, qr1, h⟩ := ob h
  refine k_X5_at F (ha1).2.1 qr1 q_503 ⟨Nat.le_of_ble_eq_true rfl, Nat.le_of_ble_eq_true rfl, Nat.le_of_ble_eq_true rfl, Nat.le_of_ble_eq_true rfl⟩ hW hS hl.1 (Nat.le_of_ble_eq_true rfl) dX7_layDots_5 (fun H locs hW hS => ?_)
  refine lv_istore (lv' := [(4, .int r1), (0, .ref (b + t)), (1, .ref (b + a1)), (2, .int a2), (3, .int a3)]) hx hb dX7_layDots_8 hl (by decide) rfl (fun ls hl => ?_)
  refine lv_aload_n hx hb dX7_layDots_10 rfl (lv_at hl 2 rfl) ?_
  refine fl_get0 (v := .ref (b + (a1 + 1))) (ha1).1 F hW 0 (by decide) q_149 rfl rfl dX7_layDots_11 ?_
  refine lv_bipush (v := (7 : Int32)) hx hb dX7_layDots_14 (by decide) ?_
  obtain ⟨r2, qr2, h⟩ := ob h
  refine k_X5_at F (ha1).2.1 qr2 q_503 ⟨Nat.le_of_ble_eq_true rfl, Nat.le_of_ble_eq_true rfl, Nat.le_of_ble_eq_true rfl, Nat.le_of_ble_eq_true rfl⟩ hW hS hl.1 (Nat.le_of_ble_eq_true rfl) dX7_layDots_16 (fun H locs hW hS => ?_)
  refine lv_istore (lv' := [(5, .int r2), (4, .int r1), (0, .ref (b + t)), (1, .ref (b + a1)), (2, .int a2), (3, .int a3)]) hx hb dX7_layDots_19 hl (by decide) rfl (fun ls hl => ?_)
  refine lv_aload_n hx hb dX7_layDots_21 rfl (lv_at hl 2 rfl) ?_
  refine fl_get7 (v := .ref (b + (t + 5))) (ht).1 F hW 5 (by decide) q_319 rfl rfl dX7_layDots_22 ?_
  refine lv_aload_n hx hb dX7_layDots_25 rfl (lv_at hl 2 rfl) ?_
  refine fl_get7 (v := .int (μ.1 t 2)) (ht).1 F hW 2 (by decide) q_310 rfl rfl dX7_layDots_26 ?_
  refine lv_iconst (v := (1 : Int32)) hx hb dX7_layDots_29 (by decide) ?_
  refine lv_isub hx hb dX7_layDots_30 ?_
  obtain ⟨r3, qr3, h⟩ := ob h
  refine k_X5_at F (ht).2.2.2.1 qr3 q_503 ⟨Nat.le_of_ble_eq_true rfl, Nat.le_of_ble_eq_true rfl, Nat.le_of_ble_eq_true rfl, Nat.le_of_ble_eq_true rfl⟩ hW hS hl.1 (Nat.le_of_ble_eq_true rfl) dX7_layDots_31 (fun H locs hW hS => ?_)
  refine lv_iload hx hb dX7_layDots_34 (lv_at hl 1 rfl) ?_
  refine lv_iadd hx hb dX7_layDots_36 ?_
  refine lv_iload hx hb dX7_layDots_37 (lv_at hl 0 rfl) ?_
  obtain ⟨r4, qr4, h⟩ := ob h
  refine k_X11_quotientUp_n F qr4 (by decide +kernel) ⟨Nat.le_of_ble_eq_true rfl, Nat.le_of_ble_eq_true rfl, Nat.le_of_ble_eq_true rfl, Nat.le_of_ble_eq_true rfl⟩ hW hS hl.1 (Nat.le_of_ble_eq_true rfl) dX7_layDots_39 (fun H locs hW hS => ?_)
  refine lv_iload hx hb dX7_layDots_42 (lv_at hl 0 rfl) ?_
  refine lv_imul hx hb dX7_layDots_44 ?_
  obtain ⟨v5, ev5⟩ : ∃ y, y = (r4 * r2) := ⟨_, rfl⟩
  have h := nm_at ev5 h
  rw [← ev5]
  refine lv_istore (lv' := [(6, .int v5), (5, .int r2), (4, .int r1), (0, .ref (b + t)), (1, .ref (b + a1)), (2, .int a2), (3, .int a3)]) hx hb dX7_layDots_45 hl (by decide) rfl (fun ls hl => ?_)
  refine lv_aload_n hx hb dX7_layDots_47 rfl (lv_at hl 4 rfl) ?_
  refine fl_get0 (v := .ref (b + (a1 + 1))) (ha1).1 F hW 0 (by decide) q_149 rfl rfl dX7_layDots_48 ?_
  refine lv_iconst (v := (0 : Int32)) hx hb dX7_layDots_51 (by decide) ?_
  obtain ⟨r6, qr6, h⟩ := ob h
  refine k_X5_at F (ha1).2.1 qr6 q_503 ⟨Nat.le_of_ble_eq_true rfl, Nat.le_of_ble_eq_true rfl, Nat.le_of_ble_eq_true rfl, Nat.le_of_ble_eq_true rfl⟩ hW hS hl.1 (Nat.le_of_ble_eq_true rfl) dX7_layDots_52 (fun H locs hW hS => ?_)
  refine lv_iload_n hx hb dX7_layDots_55 rfl (lv_at hl 6 rfl) ?_
  refine lv_isub hx hb dX7_layDots_56 ?_
  refine lv_iload hx hb dX7_layDots_57 (lv_at hl 2 rfl) ?_
  refine lv_isub hx hb dX7_layDots_59 ?_
  refine lv_iconst (v := (1 : Int32)) hx hb dX7_layDots_60 (by decide) ?_
  refine lv_isub hx hb dX7_layDots_61 ?_
  obtain ⟨v7, ev7⟩ : ∃ y, y = (((r6 - a3) - r1) - (1 : Int32)) := ⟨_, rfl⟩
  have h := nm_at ev7 h
  rw [← ev7]
  refine lv_istore (lv' := [(7, .int v7), (6, .int v5), (5, .int r2), (4, .int r1), (0, .ref (b + t)), (1, .ref (b + a1)), (2, .int a2), (3, .int a3)]) hx hb dX7_layDots_62 hl (by decide) rfl (fun ls hl => ?_)
  refine lv_iload hx hb dX7_layDots_64 (lv_at hl 1 rfl) ?_
  refine lv_iload hx hb dX7_layDots_66 (lv_at hl 0 rfl) ?_
  refine lv_icmp_le (tgt := 75) hx hb dX7_layDots_68 (by decide) (fun cc => ?_) (fun cc => ?_)
  · replace h := (if_pos cc).symm.trans h
    refine lv_iconst (v := (0 : Int32)) hx hb dX7_layDots_75 (by decide) ?_
    exact wk_X7_layDots_76 F hr ht ha1 h hW hS (lv_sub hl [4, 6, 2, 1, 0] rfl)
  · replace h := (if_neg cc).symm.trans h
    refine lv_iconst (v := (1 : Int32)) hx hb dX7_layDots_71 (by decide) ?_
    refine lv_goto (tgt := 76) hx hb dX7_layDots_72 (by decide) ?_
    exact wk_X7_layDots_76 F hr ht ha1 h hW hS (lv_sub hl [4, 6, 2, 1, 0] rfl)
set_option maxHeartbeats 4000000 in
set_option maxRecDepth 100000 in
theorem c_X7_layDots {l : Launch} {G : Gt} {b : Nat} {t : Nat} {a1 : Nat} {a2 : Int32} {a3 : Int32} {μ : Mm} {out : Mm} (ht : okTa t) (ha1 : okBk a1) (h : sh_X7_layDots t a1 a2 a3 μ = some out) : Met l yX7_layDots (wU (Cond.code yX7_layDots cX7_layDots 9 none)) ({ frames := 1, cells := 0, slots := 0, locals := 22 } : Room) (PcW G b μ [.ref (b + t), .ref (b + a1), .int a2, .int a3]) (QW G b out none) 0 0 (fb b) :=
  met_of [.ref (b + t), .ref (b + a1), .int a2, .int a3] (by decide) (Nat.le_of_ble_eq_true rfl) (fun F hr hW hl => wk_X7_layDots F hr ht ha1 h hW va_S.rf hl)
set_option maxHeartbeats 4000000 in
set_option maxRecDepth 100000 in
theorem k_X7_layDots {own : String} {nL : Nat} (F : FX G b own cc nL p s m args meth c) {t : Nat} {a1 : Nat} {a2 : Int32} {a3 : Int32} {μ : Mm} {out : Mm} (ht : okTa t) (ha1 : okBk a1) (h : sh_X7_layDots t a1 a2 a3 μ = some out) {index : Nat} (hl : Cond.methodLink own index yX7_layDots ∈ TBG) (hR : 1 + 1 ≤ R.frames ∧ 8 + (9 + 11) + 22 ≤ R.locals ∧ cells ≤ R.cells ∧ slots ≤ R.slots) (hW : WH G b μ H) (hS : va_S (fb b) s.heap H locs) (hsz : ls.size = nL) (hrest : (rest.map fun v => v.category).sum ≤ 8) (hdg : decode cc pc = .ok (.invokevirtual index, 3))
    (kk : ∀ (H1 : Heap) (locs1 : List Loc), WH G b out H1 → va_S (fb b) s.heap H1 locs1 → W p l e R s m args below meth c H1 locs1 cells slots Q (F0 m (pc + 3) ls (rest))) : W p l e R s m args below meth c H locs cells slots Q (F0 m pc ls (.int a3 :: .int a2 :: .ref (b + a1) :: .ref (b + t) :: rest)) :=
  f_callV (As := [.ref (b + a1), .int a2, .int a3]) (ci := 7) (c_X7_layDots ht ha1 h) ⟨rfl, rfl⟩ rfl (ky_lt ht.1 (by decide)) (wF_7 ht.1) q_521 qp_6 q_12 q_522 rfl ⟨by decide +kernel, by decide +kernel, (show (parseMethodDescriptor yX7_layDots.desc).map (fun d => d.parameters.length) = some 3 by decide +kernel)⟩ F hl hR hW hS hsz hrest rfl hdg kk
set_option maxHeartbeats 4000000 in
set_option maxRecDepth 100000 in
theorem wk_X7_breakLastToken {t : Nat} {a1 : Nat} {a2 : Nat} {a3 : Int32} {μ : Mm} {out : Mm} (F : FX G b RX7 cX7_breakLastToken 6 p s m args meth c) (hr : meth.sig.returnType = none) (ht : okTa t) (ha1 : okBk a1) (ha2 : okMz a2) (h : sh_X7_breakLastToken t a1 a2 a3 μ = some out) (hW : WH G b μ H) (hS : va_S (fb b) s.heap H locs) (hl : lv_has ls 6 [(0, .ref (b + t)), (1, .ref (b + a1)), (2, .ref (b + a2)), (3, .int a3)]) : W p l e ({ frames := 2, cells := 0, slots := 0, locals := 46 } : Room) s m args below meth c H locs 0 0 (MQ below (QW G b out none) args s 0 0 (fb b)) (F0 m 0 ls []) := by
  have hx := F.1
  have hb := F.2.1
  unfold sh_X7_breakLastToken at h
  refine lv_aload_n hx hb dX7_breakLastToken_0 rfl (lv_at hl 1 rfl) ?_
  refine fl_get0 (v := .ref (b + (a1 + 7))) (ha1).1 F hW 6 (by decide) q_182 rfl rfl dX7_breakLastToken_1 ?_
  refine lv_iload_n hx hb dX7_breakLastToken_4 rfl (lv_at hl 3 rfl) ?_
  obtain ⟨r1, qr1, h⟩ := ob h
  refine k_X5_at F (ha1).2.2.2.2.1 qr1 q_503 ⟨Nat.le_of_ble_eq_true rfl, Nat.le_of_ble_eq_true rfl, Nat.le_of_ble_eq_true rfl, Nat.le_of_ble_eq_true rfl⟩ hW hS hl.1 (Nat.le_of_ble_eq_true rfl) dX7_breakLastToken_5 (fun H locs hW hS => ?_)
  refine lv_iconst (v := (1 : Int32)) hx hb dX7_breakLastToken_8 (by decide) ?_
  refine lv_isub hx hb dX7_breakLastToken_9 ?_
  obtain ⟨v2, ev2⟩ : ∃ y, y = (r1 - (1 : Int32)) := ⟨_, rfl⟩
  have h := nm_at ev2 h
  rw [← ev2]
  refine lv_istore (lv' := [(4, .int v2), (0, .ref (b + t)), (1, .ref (b + a1)), (2, .ref (b + a2)), (3, .int a3)]) hx hb dX7_breakLastToken_10 hl (by decide) rfl (fun ls hl => ?_)
  refine lv_aload_n hx hb dX7_breakLastToken_12 rfl (lv_at hl 3 rfl) ?_
  refine fl_get2 (v := .ref (b + (a2 + 9))) (ha2).1 F hW 4 (by decide) q_247 rfl rfl dX7_breakLastToken_13 ?_
  refine lv_iload_n hx hb dX7_breakLastToken_16 rfl (lv_at hl 4 rfl) ?_
  refine lv_bipush (v := (8 : Int32)) hx hb dX7_breakLastToken_17 (by decide) ?_
  refine lv_imul hx hb dX7_breakLastToken_19 ?_
  refine lv_iload hx hb dX7_breakLastToken_20 (lv_at hl 0 rfl) ?_
  refine lv_iadd hx hb dX7_breakLastToken_22 ?_
  obtain ⟨r3, qr3, h⟩ := ob h
  refine k_X5_at F (ha2).2.2.2.2.2.1 qr3 q_503 ⟨Nat.le_of_ble_eq_true rfl, Nat.le_of_ble_eq_true rfl, Nat.le_of_ble_eq_true rfl, Nat.le_of_ble_eq_true rfl⟩ hW hS hl.1 (Nat.le_of_ble_eq_true rfl) dX7_breakLastToken_23 (fun H locs hW hS => ?_)
  refine lv_istore (lv' := [(5, .int r3), (4, .int v2), (0, .ref (b + t)), (1, .ref (b + a1)), (2, .ref (b + a2)), (3, .int a3)]) hx hb dX7_breakLastToken_26 hl (by decide) rfl (fun ls hl => ?_)
  refine lv_aload_n hx hb dX7_breakLastToken_28 rfl (lv_at hl 2 rfl) ?_
  refine fl_get7 (v := .ref (b + (t + 5))) (ht).1 F hW 5 (by decide) q_319 rfl rfl dX7_breakLastToken_29 ?_
  refine lv_aload_n hx hb dX7_breakLastToken_32 rfl (lv_at hl 2 rfl) ?_
  refine fl_get7 (v := .int (μ.1 t 2)) (ht).1 F hW 2 (by decide) q_310 rfl rfl dX7_breakLastToken_33 ?_
  refine lv_iconst (v := (1 : Int32)) hx hb dX7_breakLastToken_36 (by decide) ?_
  refine lv_isub hx hb dX7_breakLastToken_37 ?_
  refine lv_iload hx hb dX7_breakLastToken_38 (lv_at hl 0 rfl) ?_
  refine lv_ineg hx hb dX7_breakLastToken_40 ?_
  refine lv_bipush (v := (32 : Int32)) hx hb dX7_breakLastToken_41 (by decide) ?_
  obtain ⟨r4, qr4, h⟩ := ob h
  refine k_X11_signWidth_n F qr4 (by decide +kernel) ⟨Nat.le_of_ble_eq_true rfl, Nat.le_of_ble_eq_true rfl, Nat.le_of_ble_eq_true rfl, Nat.le_of_ble_eq_true rfl⟩ hW hS hl.1 (Nat.le_of_ble_eq_true rfl) dX7_breakLastToken_43 (fun H locs hW hS => ?_)
  refine lv_isub hx hb dX7_breakLastToken_46 ?_
  obtain ⟨r5, qr5, h⟩ := ob h
  refine k_X5_add F (ht).2.2.2.1 qr5 q_518 ⟨Nat.le_of_ble_eq_true rfl, Nat.le_of_ble_eq_true rfl, Nat.le_of_ble_eq_true rfl, Nat.le_of_ble_eq_true rfl⟩ hW hS hl.1 (Nat.le_of_ble_eq_true rfl) dX7_breakLastToken_47 (fun H locs hW hS => ?_)
  refine lv_aload_n hx hb dX7_breakLastToken_50 rfl (lv_at hl 2 rfl) ?_
  refine fl_get7 (v := .ref (b + (t + 7))) (ht).1 F hW 6 (by decide) q_321 rfl rfl dX7_breakLastToken_51 ?_
  refine lv_aload_n hx hb dX7_breakLastToken_54 rfl (lv_at hl 2 rfl) ?_
  refine fl_get7 (v := .int (r5.1 t 2)) (ht).1 F hW 2 (by decide) q_310 rfl rfl dX7_breakLastToken_55 ?_
  refine lv_iconst (v := (1 : Int32)) hx hb dX7_breakLastToken_58 (by decide) ?_
  refine lv_isub hx hb dX7_breakLastToken_59 ?_
  refine lv_iconst (v := (-1 : Int32)) hx hb dX7_breakLastToken_60 (by decide) ?_
  obtain ⟨r6, qr6, h⟩ := ob h
  refine k_X5_add F (ht).2.2.2.2.1 qr6 q_518 ⟨Nat.le_of_ble_eq_true rfl, Nat.le_of_ble_eq_true rfl, Nat.le_of_ble_eq_true rfl, Nat.le_of_ble_eq_true rfl⟩ hW hS hl.1 (Nat.le_of_ble_eq_true rfl) dX7_breakLastToken_61 (fun H locs hW hS => ?_)
  refine lv_aload_n hx hb dX7_breakLastToken_64 rfl (lv_at hl 2 rfl) ?_
  refine lv_iload_n hx hb dX7_breakLastToken_65 rfl (lv_at hl 5 rfl) ?_
  refine lv_aload_n hx hb dX7_breakLastToken_66 rfl (lv_at hl 3 rfl) ?_
  refine lv_iload_n hx hb dX7_breakLastToken_67 rfl (lv_at hl 5 rfl) ?_
  obtain ⟨r7, qr7, h⟩ := ob h
  refine k_X7_firstStart F ha1 qr7 q_510 ⟨Nat.le_of_ble_eq_true rfl, Nat.le_of_ble_eq_true rfl, Nat.le_of_ble_eq_true rfl, Nat.le_of_ble_eq_true rfl⟩ hW hS hl.1 (Nat.le_of_ble_eq_true rfl) dX7_breakLastToken_68 (fun H locs hW hS => ?_)
  refine lv_aload_n hx hb dX7_breakLastToken_71 rfl (lv_at hl 3 rfl) ?_
  refine fl_get0 (v := .ref (b + (a1 + 1))) (ha1).1 F hW 0 (by decide) q_149 rfl rfl dX7_breakLastToken_72 ?_
  refine lv_iconst (v := (4 : Int32)) hx hb dX7_breakLastToken_75 (by decide) ?_
  obtain ⟨r8, qr8, h⟩ := ob h
  refine k_X5_at F (ha1).2.1 qr8 q_503 ⟨Nat.le_of_ble_eq_true rfl, Nat.le_of_ble_eq_true rfl, Nat.le_of_ble_eq_true rfl, Nat.le_of_ble_eq_true rfl⟩ hW hS hl.1 (Nat.le_of_ble_eq_true rfl) dX7_breakLastToken_76 (fun H locs hW hS => ?_)
  refine lv_iadd hx hb dX7_breakLastToken_79 ?_
  refine lv_iload hx hb dX7_breakLastToken_80 (lv_at hl 1 rfl) ?_
  refine lv_iload hx hb dX7_breakLastToken_82 (lv_at hl 0 rfl) ?_
  obtain ⟨r9, qr9, h⟩ := ob h
  refine k_X7_openLine F ht qr9 q_514 ⟨Nat.le_of_ble_eq_true rfl, Nat.le_of_ble_eq_true rfl, Nat.le_of_ble_eq_true rfl, Nat.le_of_ble_eq_true rfl⟩ hW hS hl.1 (Nat.le_of_ble_eq_true rfl) dX7_breakLastToken_84 (fun H locs hW hS => ?_)
  cases h
  exact r_void F hr hW hS dX7_breakLastToken_87
set_option maxHeartbeats 4000000 in
set_option maxRecDepth 100000 in
theorem c_X7_breakLastToken {l : Launch} {G : Gt} {b : Nat} {t : Nat} {a1 : Nat} {a2 : Nat} {a3 : Int32} {μ : Mm} {out : Mm} (ht : okTa t) (ha1 : okBk a1) (ha2 : okMz a2) (h : sh_X7_breakLastToken t a1 a2 a3 μ = some out) : Met l yX7_breakLastToken (wU (Cond.code yX7_breakLastToken cX7_breakLastToken 6 none)) ({ frames := 2, cells := 0, slots := 0, locals := 46 } : Room) (PcW G b μ [.ref (b + t), .ref (b + a1), .ref (b + a2), .int a3]) (QW G b out none) 0 0 (fb b) :=
  met_of [.ref (b + t), .ref (b + a1), .ref (b + a2), .int a3] (by decide) (Nat.le_of_ble_eq_true rfl) (fun F hr hW hl => wk_X7_breakLastToken F hr ht ha1 ha2 h hW va_S.rf hl)
set_option maxHeartbeats 4000000 in
set_option maxRecDepth 100000 in
theorem k_X7_breakLastToken {own : String} {nL : Nat} (F : FX G b own cc nL p s m args meth c) {t : Nat} {a1 : Nat} {a2 : Nat} {a3 : Int32} {μ : Mm} {out : Mm} (ht : okTa t) (ha1 : okBk a1) (ha2 : okMz a2) (h : sh_X7_breakLastToken t a1 a2 a3 μ = some out) {index : Nat} (hl : Cond.methodLink own index yX7_breakLastToken ∈ TBG) (hR : 2 + 1 ≤ R.frames ∧ 8 + (6 + 11) + 46 ≤ R.locals ∧ cells ≤ R.cells ∧ slots ≤ R.slots) (hW : WH G b μ H) (hS : va_S (fb b) s.heap H locs) (hsz : ls.size = nL) (hrest : (rest.map fun v => v.category).sum ≤ 8) (hdg : decode cc pc = .ok (.invokevirtual index, 3))
    (kk : ∀ (H1 : Heap) (locs1 : List Loc), WH G b out H1 → va_S (fb b) s.heap H1 locs1 → W p l e R s m args below meth c H1 locs1 cells slots Q (F0 m (pc + 3) ls (rest))) : W p l e R s m args below meth c H locs cells slots Q (F0 m pc ls (.int a3 :: .ref (b + a2) :: .ref (b + a1) :: .ref (b + t) :: rest)) :=
  f_callV (As := [.ref (b + a1), .ref (b + a2), .int a3]) (ci := 7) (c_X7_breakLastToken ht ha1 ha2 h) ⟨rfl, rfl⟩ rfl (ky_lt ht.1 (by decide)) (wF_7 ht.1) q_527 qp_7 q_12 q_528 rfl ⟨by decide +kernel, by decide +kernel, (show (parseMethodDescriptor yX7_breakLastToken.desc).map (fun d => d.parameters.length) = some 3 by decide +kernel)⟩ F hl hR hW hS hsz hrest rfl hdg kk
set_option maxHeartbeats 4000000 in
set_option maxRecDepth 100000 in
theorem wk_X7_lay_185 {n : Nat} {t : Nat} {a1 : Nat} {a2 : Nat} {a3 : Nat} {k77 : (Int32 → Mm → Option Mm)} {x4 : Int32} {μ : Mm} {out : Mm} (F : FX G b RX7 cX7_lay 5 p s m args meth c) (hr : meth.sig.returnType = none) (ht : okTa t) (ha1 : okBk a1) (ha2 : okMz a2) (ha3 : okPz a3) (hk77 : ∀ (x4 : Int32) (μ : Mm) (H : Heap) (locs : List Loc) (ls : Array Slot), k77 x4 μ = some out → WH G b μ H → va_S (fb b) s.heap H locs → lv_has ls 5 [(0, .ref (b + t)), (1, .ref (b + a1)), (2, .ref (b + a2)), (3, .ref (b + a3)), (4, .int x4)] → W p l e ({ frames := 3, cells := 0, slots := 0, locals := 74 } : Room) s m args below meth c H locs 0 0 (MQ below (QW G b out none) args s 0 0 (fb b)) (F0 m 77 ls [])) (h : sh_X7_lay_185 n t a1 a2 a3 k77 x4 μ = some out) (hW : WH G b μ H) (hS : va_S (fb b) s.heap H locs) (hl : lv_has ls 5 [(0, .ref (b + t)), (1, .ref (b + a1)), (2, .ref (b + a2)), (3, .ref (b + a3)), (4, .int x4)]) : W p l e ({ frames := 3, cells := 0, slots := 0, locals := 74 } : Room) s m args below meth c H locs 0 0 (MQ below (QW G b out none) args s 0 0 (fb b)) (F0 m 185 ls []) := by
  have hx := F.1
  have hb := F.2.1
  unfold sh_X7_lay_185 at h
  refine lv_aload_n hx hb dX7_lay_185 rfl (lv_at hl 0 rfl) ?_
  refine fl_get7 (v := .ref (b + (t + 13))) (ht).1 F hW 9 (by decide) q_328 rfl rfl dX7_lay_186 ?_
  refine lv_iload hx hb dX7_lay_189 (lv_at hl 4 rfl) ?_
  refine lv_aload_n hx hb dX7_lay_191 rfl (lv_at hl 0 rfl) ?_
  refine fl_get7 (v := .int (μ.1 t 2)) (ht).1 F hW 2 (by decide) q_310 rfl rfl dX7_lay_192 ?_
  refine lv_aload_n hx hb dX7_lay_195 rfl (lv_at hl 0 rfl) ?_
  refine fl_get7 (v := .ref (b + (t + 11))) (ht).1 F hW 8 (by decide) q_326 rfl rfl dX7_lay_196 ?_
  refine lv_iload hx hb dX7_lay_199 (lv_at hl 4 rfl) ?_
  obtain ⟨r12, qr12, h⟩ := ob h
  refine k_X5_at F (ht).2.2.2.2.2.2.1 qr12 q_503 ⟨Nat.le_of_ble_eq_true rfl, Nat.le_of_ble_eq_true rfl, Nat.le_of_ble_eq_true rfl, Nat.le_of_ble_eq_true rfl⟩ hW hS hl.1 (Nat.le_of_ble_eq_true rfl) dX7_lay_201 (fun H locs hW hS => ?_)
  refine lv_isub hx hb dX7_lay_204 ?_
  obtain ⟨r13, qr13, h⟩ := ob h
  refine k_X5_put F (ht).2.2.2.2.2.2.2.1 qr13 q_505 ⟨Nat.le_of_ble_eq_true rfl, Nat.le_of_ble_eq_true rfl, Nat.le_of_ble_eq_true rfl, Nat.le_of_ble_eq_true rfl⟩ hW hS hl.1 (Nat.le_of_ble_eq_true rfl) dX7_lay_205 (fun H locs hW hS => ?_)
  refine lv_iinc (v := (x4 + (1 : Int32))) (lv' := [(4, .int (x4 + (1 : Int32))), (0, .ref (b + t)), (1, .ref (b + a1)), (2, .ref (b + a2)), (3, .ref (b + a3))]) hx hb dX7_lay_208 hl (k := 4) rfl rfl (by decide) rfl (fun ls hl => ?_)
  refine lv_goto (tgt := 77) hx hb dX7_lay_211 (by decide) ?_
  exact hk77 _ _ _ _ _ h hW hS (lv_sub hl [1, 2, 3, 4, 0] rfl)
set_option maxHeartbeats 4000000 in
set_option maxRecDepth 100000 in
theorem wk_X7_lay_77 {n : Nat} {t : Nat} {a1 : Nat} {a2 : Nat} {a3 : Nat} {out : Mm} (F : FX G b RX7 cX7_lay 5 p s m args meth c) (hr : meth.sig.returnType = none) (ht : okTa t) (ha1 : okBk a1) (ha2 : okMz a2) (ha3 : okPz a3) : ∀ (f : Nat) (x4 : Int32) (μ : Mm) (H : Heap) (locs : List Loc) (ls : Array Slot), sh_X7_lay_77 n t a1 a2 a3 f x4 μ = some out → WH G b μ H → va_S (fb b) s.heap H locs → lv_has ls 5 [(0, .ref (b + t)), (1, .ref (b + a1)), (2, .ref (b + a2)), (3, .ref (b + a3)), (4, .int x4)] → W p l e ({ frames := 3, cells := 0, slots := 0, locals := 74 } : Room) s m args below meth c H locs 0 0 (MQ below (QW G b out none) args s 0 0 (fb b)) (F0 m 77 ls []) := by
  have hx := F.1
  have hb := F.2.1
  intro f
  induction f with
  | zero =>
    intro _ _ _ _ _ h
    rw [sh_X7_lay_77] at h
    cases h
  | succ f ih =>
    intro x4 μ H locs ls h hW hS hl
    rw [sh_X7_lay_77] at h
    have hk77 := ih
    refine lv_iload hx hb dX7_lay_77 (lv_at hl 4 rfl) ?_
    refine lv_aload_n hx hb dX7_lay_79 rfl (lv_at hl 1 rfl) ?_
    refine fl_get0 (v := .int (μ.1 a1 2)) (ha1).1 F hW 2 (by decide) q_160 rfl rfl dX7_lay_80 ?_
    refine lv_icmp_ge (tgt := 214) hx hb dX7_lay_83 (by decide) (fun cc => ?_) (fun cc => ?_)
    · replace h := (if_pos cc).symm.trans h
      cases h
      exact r_void F hr hW hS dX7_lay_214
    · replace h := (if_neg cc).symm.trans h
      refine lv_aload_n hx hb dX7_lay_86 rfl (lv_at hl 0 rfl) ?_
      refine fl_get7 (v := .ref (b + (t + 11))) (ht).1 F hW 8 (by decide) q_326 rfl rfl dX7_lay_87 ?_
      refine lv_iload hx hb dX7_lay_90 (lv_at hl 4 rfl) ?_
      refine lv_aload_n hx hb dX7_lay_92 rfl (lv_at hl 0 rfl) ?_
      refine fl_get7 (v := .int (μ.1 t 2)) (ht).1 F hW 2 (by decide) q_310 rfl rfl dX7_lay_93 ?_
      obtain ⟨r6, qr6, h⟩ := ob h
      refine k_X5_put F (ht).2.2.2.2.2.2.1 qr6 q_505 ⟨Nat.le_of_ble_eq_true rfl, Nat.le_of_ble_eq_true rfl, Nat.le_of_ble_eq_true rfl, Nat.le_of_ble_eq_true rfl⟩ hW hS hl.1 (Nat.le_of_ble_eq_true rfl) dX7_lay_96 (fun H locs hW hS => ?_)
      refine lv_aload_n hx hb dX7_lay_99 rfl (lv_at hl 0 rfl) ?_
      refine lv_aload_n hx hb dX7_lay_100 rfl (lv_at hl 1 rfl) ?_
      refine lv_aload_n hx hb dX7_lay_101 rfl (lv_at hl 2 rfl) ?_
      refine lv_iload hx hb dX7_lay_102 (lv_at hl 4 rfl) ?_
      obtain ⟨r7, qr7, h⟩ := ob h
      refine k_X7_layTokens F ht ha1 ha2 qr7 q_506 ⟨Nat.le_of_ble_eq_true rfl, Nat.le_of_ble_eq_true rfl, Nat.le_of_ble_eq_true rfl, Nat.le_of_ble_eq_true rfl⟩ hW hS hl.1 (Nat.le_of_ble_eq_true rfl) dX7_lay_104 (fun H locs hW hS => ?_)
      refine lv_aload_n hx hb dX7_lay_107 rfl (lv_at hl 0 rfl) ?_
      refine lv_aload_n hx hb dX7_lay_108 rfl (lv_at hl 1 rfl) ?_
      refine lv_iload hx hb dX7_lay_109 (lv_at hl 4 rfl) ?_
      refine lv_aload_n hx hb dX7_lay_111 rfl (lv_at hl 3 rfl) ?_
      refine fl_get3 (v := .ref (b + (a3 + 7))) (ha3).1 F hW 3 (by decide) q_279 rfl rfl dX7_lay_112 ?_
      refine lv_iload hx hb dX7_lay_115 (lv_at hl 4 rfl) ?_
      obtain ⟨r8, qr8, h⟩ := ob h
      refine k_X5_at F (ha3).2.2.2.2 qr8 q_503 ⟨Nat.le_of_ble_eq_true rfl, Nat.le_of_ble_eq_true rfl, Nat.le_of_ble_eq_true rfl, Nat.le_of_ble_eq_true rfl⟩ hW hS hl.1 (Nat.le_of_ble_eq_true rfl) dX7_lay_117 (fun H locs hW hS => ?_)
      obtain ⟨r9, qr9, h⟩ := ob h
      refine k_X7_layDots F ht ha1 qr9 q_519 ⟨Nat.le_of_ble_eq_true rfl, Nat.le_of_ble_eq_true rfl, Nat.le_of_ble_eq_true rfl, Nat.le_of_ble_eq_true rfl⟩ hW hS hl.1 (Nat.le_of_ble_eq_true rfl) dX7_lay_120 (fun H locs hW hS => ?_)
      refine lv_aload_n hx hb dX7_lay_123 rfl (lv_at hl 0 rfl) ?_
      refine fl_get7 (v := .ref (b + (t + 17))) (ht).1 F hW 11 (by decide) q_332 rfl rfl dX7_lay_124 ?_
      refine lv_iload hx hb dX7_lay_127 (lv_at hl 4 rfl) ?_
      obtain ⟨r10, qr10, h⟩ := ob h
      refine k_X5_at F (ht).2.2.2.2.2.2.2.2.2 qr10 q_503 ⟨Nat.le_of_ble_eq_true rfl, Nat.le_of_ble_eq_true rfl, Nat.le_of_ble_eq_true rfl, Nat.le_of_ble_eq_true rfl⟩ hW hS hl.1 (Nat.le_of_ble_eq_true rfl) dX7_lay_129 (fun H locs hW hS => ?_)
      refine lv_aload_n hx hb dX7_lay_132 rfl (lv_at hl 1 rfl) ?_
      refine fl_get0 (v := .ref (b + (a1 + 1))) (ha1).1 F hW 0 (by decide) q_149 rfl rfl dX7_lay_133 ?_
      refine lv_bipush (v := (6 : Int32)) hx hb dX7_lay_136 (by decide) ?_
      obtain ⟨r11, qr11, h⟩ := ob h
      refine k_X5_at F (ha1).2.1 qr11 q_503 ⟨Nat.le_of_ble_eq_true rfl, Nat.le_of_ble_eq_true rfl, Nat.le_of_ble_eq_true rfl, Nat.le_of_ble_eq_true rfl⟩ hW hS hl.1 (Nat.le_of_ble_eq_true rfl) dX7_lay_138 (fun H locs hW hS => ?_)
      refine lv_icmp_ge (tgt := 185) hx hb dX7_lay_141 (by decide) (fun cc => ?_) (fun cc => ?_)
      · replace h := (if_pos cc).symm.trans h
        exact wk_X7_lay_185 F hr ht ha1 ha2 ha3 hk77 h hW hS (lv_sub hl [0, 1, 2, 3, 4] rfl)
      · replace h := (if_neg cc).symm.trans h
        refine lv_aload_n hx hb dX7_lay_144 rfl (lv_at hl 0 rfl) ?_
        refine fl_get7 (v := .ref (b + (t + 7))) (ht).1 F hW 6 (by decide) q_321 rfl rfl dX7_lay_145 ?_
        refine lv_aload_n hx hb dX7_lay_148 rfl (lv_at hl 0 rfl) ?_
        refine fl_get7 (v := .int (r9.1 t 2)) (ht).1 F hW 2 (by decide) q_310 rfl rfl dX7_lay_149 ?_
        refine lv_iconst (v := (1 : Int32)) hx hb dX7_lay_152 (by decide) ?_
        refine lv_isub hx hb dX7_lay_153 ?_
        obtain ⟨r14, qr14, h⟩ := ob h
        refine k_X5_at F (ht).2.2.2.2.1 qr14 q_503 ⟨Nat.le_of_ble_eq_true rfl, Nat.le_of_ble_eq_true rfl, Nat.le_of_ble_eq_true rfl, Nat.le_of_ble_eq_true rfl⟩ hW hS hl.1 (Nat.le_of_ble_eq_true rfl) dX7_lay_154 (fun H locs hW hS => ?_)
        refine lv_iconst (v := (1 : Int32)) hx hb dX7_lay_157 (by decide) ?_
        refine lv_icmp_le (tgt := 185) hx hb dX7_lay_158 (by decide) (fun cc => ?_) (fun cc => ?_)
        · replace h := (if_pos cc).symm.trans h
          exact wk_X7_lay_185 F hr ht ha1 ha2 ha3 hk77 h hW hS (lv_sub hl [0, 1, 2, 3, 4] rfl)
        · replace h := (if_neg cc).symm.trans h
          refine lv_aload_n hx hb dX7_lay_161 rfl (lv_at hl 0 rfl) ?_
          refine lv_aload_n hx hb dX7_lay_162 rfl (lv_at hl 1 rfl) ?_
          refine lv_aload_n hx hb dX7_lay_163 rfl (lv_at hl 2 rfl) ?_
          refine lv_iload hx hb dX7_lay_164 (lv_at hl 4 rfl) ?_
          obtain ⟨r15, qr15, h⟩ := ob h
          refine k_X7_breakLastToken F ht ha1 ha2 qr15 q_525 ⟨Nat.le_of_ble_eq_true rfl, Nat.le_of_ble_eq_true rfl, Nat.le_of_ble_eq_true rfl, Nat.le_of_ble_eq_true rfl⟩ hW hS hl.1 (Nat.le_of_ble_eq_true rfl) dX7_lay_166 (fun H locs hW hS => ?_)
          refine lv_aload_n hx hb dX7_lay_169 rfl (lv_at hl 0 rfl) ?_
          refine lv_aload_n hx hb dX7_lay_170 rfl (lv_at hl 1 rfl) ?_
          refine lv_iload hx hb dX7_lay_171 (lv_at hl 4 rfl) ?_
          refine lv_aload_n hx hb dX7_lay_173 rfl (lv_at hl 3 rfl) ?_
          refine fl_get3 (v := .ref (b + (a3 + 7))) (ha3).1 F hW 3 (by decide) q_279 rfl rfl dX7_lay_174 ?_
          refine lv_iload hx hb dX7_lay_177 (lv_at hl 4 rfl) ?_
          obtain ⟨r16, qr16, h⟩ := ob h
          refine k_X5_at F (ha3).2.2.2.2 qr16 q_503 ⟨Nat.le_of_ble_eq_true rfl, Nat.le_of_ble_eq_true rfl, Nat.le_of_ble_eq_true rfl, Nat.le_of_ble_eq_true rfl⟩ hW hS hl.1 (Nat.le_of_ble_eq_true rfl) dX7_lay_179 (fun H locs hW hS => ?_)
          obtain ⟨r17, qr17, h⟩ := ob h
          refine k_X7_layDots F ht ha1 qr17 q_519 ⟨Nat.le_of_ble_eq_true rfl, Nat.le_of_ble_eq_true rfl, Nat.le_of_ble_eq_true rfl, Nat.le_of_ble_eq_true rfl⟩ hW hS hl.1 (Nat.le_of_ble_eq_true rfl) dX7_lay_182 (fun H locs hW hS => ?_)
          exact wk_X7_lay_185 F hr ht ha1 ha2 ha3 hk77 h hW hS (lv_sub hl [0, 1, 2, 3, 4] rfl)
set_option maxHeartbeats 4000000 in
set_option maxRecDepth 100000 in
theorem wk_X7_lay_8 {n : Nat} {t : Nat} {a1 : Nat} {a2 : Nat} {a3 : Nat} {out : Mm} (F : FX G b RX7 cX7_lay 5 p s m args meth c) (hr : meth.sig.returnType = none) (ht : okTa t) (ha1 : okBk a1) (ha2 : okMz a2) (ha3 : okPz a3) : ∀ (f : Nat) (x4 : Int32) (μ : Mm) (H : Heap) (locs : List Loc) (ls : Array Slot), sh_X7_lay_8 n t a1 a2 a3 f x4 μ = some out → WH G b μ H → va_S (fb b) s.heap H locs → lv_has ls 5 [(0, .ref (b + t)), (1, .ref (b + a1)), (2, .ref (b + a2)), (3, .ref (b + a3)), (4, .int x4)] → W p l e ({ frames := 3, cells := 0, slots := 0, locals := 74 } : Room) s m args below meth c H locs 0 0 (MQ below (QW G b out none) args s 0 0 (fb b)) (F0 m 8 ls []) := by
  have hx := F.1
  have hb := F.2.1
  intro f
  induction f with
  | zero =>
    intro _ _ _ _ _ h
    rw [sh_X7_lay_8] at h
    cases h
  | succ f ih =>
    intro x4 μ H locs ls h hW hS hl
    rw [sh_X7_lay_8] at h
    have hk8 := ih
    refine lv_iload hx hb dX7_lay_8 (lv_at hl 4 rfl) ?_
    refine lv_aload_n hx hb dX7_lay_10 rfl (lv_at hl 1 rfl) ?_
    refine fl_get0 (v := .int (μ.1 a1 2)) (ha1).1 F hW 2 (by decide) q_160 rfl rfl dX7_lay_11 ?_
    refine lv_icmp_ge (tgt := 43) hx hb dX7_lay_14 (by decide) (fun cc => ?_) (fun cc => ?_)
    · replace h := (if_pos cc).symm.trans h
      refine lv_aload_n hx hb dX7_lay_43 rfl (lv_at hl 0 rfl) ?_
      refine lv_aload_n hx hb dX7_lay_44 rfl (lv_at hl 1 rfl) ?_
      refine fl_get0 (v := .ref (b + (a1 + 1))) (ha1).1 F hW 0 (by decide) q_149 rfl rfl dX7_lay_45 ?_
      refine lv_iconst (v := (0 : Int32)) hx hb dX7_lay_48 (by decide) ?_
      obtain ⟨r2, qr2, h⟩ := ob h
      refine k_X5_at F (ha1).2.1 qr2 q_503 ⟨Nat.le_of_ble_eq_true rfl, Nat.le_of_ble_eq_true rfl, Nat.le_of_ble_eq_true rfl, Nat.le_of_ble_eq_true rfl⟩ hW hS hl.1 (Nat.le_of_ble_eq_true rfl) dX7_lay_49 (fun H locs hW hS => ?_)
      refine lv_aload_n hx hb dX7_lay_52 rfl (lv_at hl 0 rfl) ?_
      refine fl_get7 (v := .int (μ.1 t 0)) (ht).1 F hW 0 (by decide) q_306 rfl rfl dX7_lay_53 ?_
      refine lv_isub hx hb dX7_lay_56 ?_
      refine lv_aload_n hx hb dX7_lay_57 rfl (lv_at hl 1 rfl) ?_
      refine fl_get0 (v := .ref (b + (a1 + 1))) (ha1).1 F hW 0 (by decide) q_149 rfl rfl dX7_lay_58 ?_
      refine lv_iconst (v := (5 : Int32)) hx hb dX7_lay_61 (by decide) ?_
      obtain ⟨r3, qr3, h⟩ := ob h
      refine k_X5_at F (ha1).2.1 qr3 q_503 ⟨Nat.le_of_ble_eq_true rfl, Nat.le_of_ble_eq_true rfl, Nat.le_of_ble_eq_true rfl, Nat.le_of_ble_eq_true rfl⟩ hW hS hl.1 (Nat.le_of_ble_eq_true rfl) dX7_lay_62 (fun H locs hW hS => ?_)
      refine lv_isub hx hb dX7_lay_65 ?_
      obtain ⟨μ4, hmμ4, h⟩ := ob h
      refine fl_put7_1 (ht).1 F hW hS q_308 hmμ4 dX7_lay_66 (fun H locs hW hS => ?_)
      refine lv_aload_n hx hb dX7_lay_69 rfl (lv_at hl 0 rfl) ?_
      refine lv_iconst (v := (0 : Int32)) hx hb dX7_lay_70 (by decide) ?_
      obtain ⟨μ5, hmμ5, h⟩ := ob h
      refine fl_put7_2 (ht).1 F hW hS q_310 hmμ5 dX7_lay_71 (fun H locs hW hS => ?_)
      refine lv_iconst (v := (0 : Int32)) hx hb dX7_lay_74 (by decide) ?_
      refine lv_istore (lv' := [(4, .int (0 : Int32)), (0, .ref (b + t)), (1, .ref (b + a1)), (2, .ref (b + a2)), (3, .ref (b + a3))]) hx hb dX7_lay_75 hl (by decide) rfl (fun ls hl => ?_)
      exact wk_X7_lay_77 F hr ht ha1 ha2 ha3 n _ _ _ _ _ h hW hS (lv_sub hl [1, 2, 3, 4, 0] rfl)
    · replace h := (if_neg cc).symm.trans h
      refine lv_aload_n hx hb dX7_lay_17 rfl (lv_at hl 0 rfl) ?_
      refine lv_aload_n hx hb dX7_lay_18 rfl (lv_at hl 0 rfl) ?_
      refine fl_get7 (v := .int (μ.1 t 0)) (ht).1 F hW 0 (by decide) q_306 rfl rfl dX7_lay_19 ?_
      refine lv_aload_n hx hb dX7_lay_22 rfl (lv_at hl 3 rfl) ?_
      refine fl_get3 (v := .ref (b + (a3 + 7))) (ha3).1 F hW 3 (by decide) q_279 rfl rfl dX7_lay_23 ?_
      refine lv_iload hx hb dX7_lay_26 (lv_at hl 4 rfl) ?_
      obtain ⟨r18, qr18, h⟩ := ob h
      refine k_X5_at F (ha3).2.2.2.2 qr18 q_503 ⟨Nat.le_of_ble_eq_true rfl, Nat.le_of_ble_eq_true rfl, Nat.le_of_ble_eq_true rfl, Nat.le_of_ble_eq_true rfl⟩ hW hS hl.1 (Nat.le_of_ble_eq_true rfl) dX7_lay_28 (fun H locs hW hS => ?_)
      refine fl_max F hl.1 q_504 q_43 q_3 mm_max (Nat.le_of_ble_eq_true rfl) (Nat.le_of_ble_eq_true rfl) (Nat.zero_le _) (Nat.zero_le _) dX7_lay_31 ?_
      obtain ⟨μ19, hmμ19, h⟩ := ob h
      refine fl_put7_0 (ht).1 F hW hS q_306 hmμ19 dX7_lay_34 (fun H locs hW hS => ?_)
      refine lv_iinc (v := (x4 + (1 : Int32))) (lv' := [(4, .int (x4 + (1 : Int32))), (0, .ref (b + t)), (1, .ref (b + a1)), (2, .ref (b + a2)), (3, .ref (b + a3))]) hx hb dX7_lay_37 hl (k := 4) rfl rfl (by decide) rfl (fun ls hl => ?_)
      refine lv_goto (tgt := 8) hx hb dX7_lay_40 (by decide) ?_
      exact hk8 _ _ _ _ _ h hW hS (lv_sub hl [1, 2, 3, 4, 0] rfl)
set_option maxHeartbeats 4000000 in
set_option maxRecDepth 100000 in
theorem wk_X7_lay {n : Nat} {t : Nat} {a1 : Nat} {a2 : Nat} {a3 : Nat} {μ : Mm} {out : Mm} (F : FX G b RX7 cX7_lay 5 p s m args meth c) (hr : meth.sig.returnType = none) (ht : okTa t) (ha1 : okBk a1) (ha2 : okMz a2) (ha3 : okPz a3) (h : sh_X7_lay n t a1 a2 a3 μ = some out) (hW : WH G b μ H) (hS : va_S (fb b) s.heap H locs) (hl : lv_has ls 5 [(0, .ref (b + t)), (1, .ref (b + a1)), (2, .ref (b + a2)), (3, .ref (b + a3))]) : W p l e ({ frames := 3, cells := 0, slots := 0, locals := 74 } : Room) s m args below meth c H locs 0 0 (MQ below (QW G b out none) args s 0 0 (fb b)) (F0 m 0 ls []) := by
  have hx := F.1
  have hb := F.2.1
  unfold sh_X7_lay at h
  refine lv_aload_n hx hb dX7_lay_0 rfl (lv_at hl 0 rfl) ?_
  refine lv_iconst (v := (0 : Int32)) hx hb dX7_lay_1 (by decide) ?_
  obtain ⟨μ1, hmμ1, h⟩ := ob h
  refine fl_put7_0 (ht).1 F hW hS q_306 hmμ1 dX7_lay_2 (fun H locs hW hS => ?_)
  refine lv_iconst (v := (0 : Int32)) hx hb dX7_lay_5 (by decide) ?_
  refine lv_istore (lv' := [(4, .int (0 : Int32)), (0, .ref (b + t)), (1, .ref (b + a1)), (2, .ref (b + a2)), (3, .ref (b + a3))]) hx hb dX7_lay_6 hl (by decide) rfl (fun ls hl => ?_)
  exact wk_X7_lay_8 F hr ht ha1 ha2 ha3 n _ _ _ _ _ h hW hS (lv_sub hl [1, 2, 3, 4, 0] rfl)
set_option maxHeartbeats 4000000 in
set_option maxRecDepth 100000 in
theorem c_X7_lay {l : Launch} {G : Gt} {b : Nat} {n : Nat} {t : Nat} {a1 : Nat} {a2 : Nat} {a3 : Nat} {μ : Mm} {out : Mm} (ht : okTa t) (ha1 : okBk a1) (ha2 : okMz a2) (ha3 : okPz a3) (h : sh_X7_lay n t a1 a2 a3 μ = some out) : Met l yX7_lay (wU (Cond.code yX7_lay cX7_lay 5 none)) ({ frames := 3, cells := 0, slots := 0, locals := 74 } : Room) (PcW G b μ [.ref (b + t), .ref (b + a1), .ref (b + a2), .ref (b + a3)]) (QW G b out none) 0 0 (fb b) :=
  met_of [.ref (b + t), .ref (b + a1), .ref (b + a2), .ref (b + a3)] (by decide) (Nat.le_of_ble_eq_true rfl) (fun F hr hW hl => wk_X7_lay F hr ht ha1 ha2 ha3 h hW va_S.rf hl)
set_option maxHeartbeats 4000000 in
set_option maxRecDepth 100000 in
theorem k_X7_lay {own : String} {nL : Nat} (F : FX G b own cc nL p s m args meth c) {n : Nat} {t : Nat} {a1 : Nat} {a2 : Nat} {a3 : Nat} {μ : Mm} {out : Mm} (ht : okTa t) (ha1 : okBk a1) (ha2 : okMz a2) (ha3 : okPz a3) (h : sh_X7_lay n t a1 a2 a3 μ = some out) {index : Nat} (hl : Cond.methodLink own index yX7_lay ∈ TBG) (hR : 3 + 1 ≤ R.frames ∧ 8 + (5 + 11) + 74 ≤ R.locals ∧ cells ≤ R.cells ∧ slots ≤ R.slots) (hW : WH G b μ H) (hS : va_S (fb b) s.heap H locs) (hsz : ls.size = nL) (hrest : (rest.map fun v => v.category).sum ≤ 8) (hdg : decode cc pc = .ok (.invokevirtual index, 3))
    (kk : ∀ (H1 : Heap) (locs1 : List Loc), WH G b out H1 → va_S (fb b) s.heap H1 locs1 → W p l e R s m args below meth c H1 locs1 cells slots Q (F0 m (pc + 3) ls (rest))) : W p l e R s m args below meth c H locs cells slots Q (F0 m pc ls (.ref (b + a3) :: .ref (b + a2) :: .ref (b + a1) :: .ref (b + t) :: rest)) :=
  f_callV (As := [.ref (b + a1), .ref (b + a2), .ref (b + a3)]) (ci := 7) (c_X7_lay ht ha1 ha2 ha3 h) ⟨rfl, rfl⟩ rfl (ky_lt ht.1 (by decide)) (wF_7 ht.1) q_500 q_501 q_12 q_502 rfl ⟨by decide +kernel, by decide +kernel, (show (parseMethodDescriptor yX7_lay.desc).map (fun d => d.parameters.length) = some 3 by decide +kernel)⟩ F hl hR hW hS hsz hrest rfl hdg kk
set_option maxHeartbeats 4000000 in
set_option maxRecDepth 100000 in
theorem wk_X7_hasDotAt {t : Nat} {a1 : Int32} {a2 : Int32} {a3 : Int32} {μ : Mm} {out : Int32} (F : FX G b RX7 cX7_hasDotAt 6 p s m args meth c) (hr : meth.sig.returnType = some .boolean) (ht : okTa t) (h : sh_X7_hasDotAt t a1 a2 a3 μ = some out) (hW : WH G b μ H) (hS : va_S (fb b) s.heap H locs) (hl : lv_has ls 6 [(0, .ref (b + t)), (1, .int a1), (2, .int a2), (3, .int a3)]) : W p l e ({ frames := 1, cells := 0, slots := 0, locals := 21 } : Room) s m args below meth c H locs 0 0 (MQ below (QW G b μ (some (.int out))) args s 0 0 (fb b)) (F0 m 0 ls []) := by
  have hx := F.1
  have hb := F.2.1
  unfold sh_X7_hasDotAt at h
  refine lv_iload_n hx hb dX7_hasDotAt_0 rfl (lv_at hl 2 rfl) ?_
  refine lv_aload_n hx hb dX7_hasDotAt_1 rfl (lv_at hl 0 rfl) ?_
  refine fl_get7 (v := .ref (b + (t + 15))) (ht).1 F hW 10 (by decide) q_330 rfl rfl dX7_hasDotAt_2 ?_
  refine lv_iload_n hx hb dX7_hasDotAt_5 rfl (lv_at hl 1 rfl) ?_
  obtain ⟨r1, qr1, h⟩ := ob h
  refine k_X5_at F (ht).2.2.2.2.2.2.2.2.1 qr1 q_503 ⟨Nat.le_of_ble_eq_true rfl, Nat.le_of_ble_eq_true rfl, Nat.le_of_ble_eq_true rfl, Nat.le_of_ble_eq_true rfl⟩ hW hS hl.1 (Nat.le_of_ble_eq_true rfl) dX7_hasDotAt_6 (fun H locs hW hS => ?_)
  refine lv_isub hx hb dX7_hasDotAt_9 ?_
  obtain ⟨v2, ev2⟩ : ∃ y, y = (a2 - r1) := ⟨_, rfl⟩
  have h := nm_at ev2 h
  rw [← ev2]
  refine lv_istore (lv' := [(4, .int v2), (0, .ref (b + t)), (1, .int a1), (2, .int a2), (3, .int a3)]) hx hb dX7_hasDotAt_10 hl (by decide) rfl (fun ls hl => ?_)
  refine lv_iload hx hb dX7_hasDotAt_12 (lv_at hl 0 rfl) ?_
  refine lv_iload_n hx hb dX7_hasDotAt_14 rfl (lv_at hl 4 rfl) ?_
  obtain ⟨r3, qr3, h⟩ := ob h
  refine k_X11_quotient_n F qr3 (by decide +kernel) ⟨Nat.le_of_ble_eq_true rfl, Nat.le_of_ble_eq_true rfl, Nat.le_of_ble_eq_true rfl, Nat.le_of_ble_eq_true rfl⟩ hW hS hl.1 (Nat.le_of_ble_eq_true rfl) dX7_hasDotAt_15 (fun H locs hW hS => ?_)
  refine lv_istore (lv' := [(5, .int r3), (4, .int v2), (0, .ref (b + t)), (1, .int a1), (2, .int a2), (3, .int a3)]) hx hb dX7_hasDotAt_18 hl (by decide) rfl (fun ls hl => ?_)
  refine lv_iload hx hb dX7_hasDotAt_20 (lv_at hl 1 rfl) ?_
  refine lv_if_lt (tgt := 51) hx hb dX7_hasDotAt_22 (by decide) (fun cc => ?_) (fun cc => ?_)
  · replace h := (if_pos cc).symm.trans h
    refine lv_iconst (v := (0 : Int32)) hx hb dX7_hasDotAt_51 (by decide) ?_
    cases h
    exact r_bool F hr (Or.inl rfl) hW hS dX7_hasDotAt_52
  · replace h := (if_neg cc).symm.trans h
    refine lv_iload hx hb dX7_hasDotAt_25 (lv_at hl 0 rfl) ?_
    refine lv_aload_n hx hb dX7_hasDotAt_27 rfl (lv_at hl 2 rfl) ?_
    refine fl_get7 (v := .ref (b + (t + 17))) (ht).1 F hW 11 (by decide) q_332 rfl rfl dX7_hasDotAt_28 ?_
    refine lv_iload_n hx hb dX7_hasDotAt_31 rfl (lv_at hl 3 rfl) ?_
    obtain ⟨r4, qr4, h⟩ := ob h
    refine k_X5_at F (ht).2.2.2.2.2.2.2.2.2 qr4 q_503 ⟨Nat.le_of_ble_eq_true rfl, Nat.le_of_ble_eq_true rfl, Nat.le_of_ble_eq_true rfl, Nat.le_of_ble_eq_true rfl⟩ hW hS hl.1 (Nat.le_of_ble_eq_true rfl) dX7_hasDotAt_32 (fun H locs hW hS => ?_)
    refine lv_icmp_ge (tgt := 51) hx hb dX7_hasDotAt_35 (by decide) (fun cc => ?_) (fun cc => ?_)
    · replace h := (if_pos cc).symm.trans h
      refine lv_iconst (v := (0 : Int32)) hx hb dX7_hasDotAt_51 (by decide) ?_
      cases h
      exact r_bool F hr (Or.inl rfl) hW hS dX7_hasDotAt_52
    · replace h := (if_neg cc).symm.trans h
      refine lv_iload hx hb dX7_hasDotAt_38 (lv_at hl 0 rfl) ?_
      refine lv_iload_n hx hb dX7_hasDotAt_40 rfl (lv_at hl 5 rfl) ?_
      refine lv_imul hx hb dX7_hasDotAt_41 ?_
      refine lv_iload hx hb dX7_hasDotAt_42 (lv_at hl 1 rfl) ?_
      refine lv_icmp_ne (tgt := 51) hx hb dX7_hasDotAt_44 (by decide) (fun cc => ?_) (fun cc => ?_)
      · replace h := (if_neg cc).symm.trans h
        refine lv_iconst (v := (0 : Int32)) hx hb dX7_hasDotAt_51 (by decide) ?_
        cases h
        exact r_bool F hr (Or.inl rfl) hW hS dX7_hasDotAt_52
      · replace h := (if_pos cc).symm.trans h
        refine lv_iconst (v := (1 : Int32)) hx hb dX7_hasDotAt_47 (by decide) ?_
        refine lv_goto (tgt := 52) hx hb dX7_hasDotAt_48 (by decide) ?_
        cases h
        exact r_bool F hr (Or.inr rfl) hW hS dX7_hasDotAt_52
set_option maxHeartbeats 4000000 in
set_option maxRecDepth 100000 in
theorem c_X7_hasDotAt {l : Launch} {G : Gt} {b : Nat} {t : Nat} {a1 : Int32} {a2 : Int32} {a3 : Int32} {μ : Mm} {out : Int32} (ht : okTa t) (h : sh_X7_hasDotAt t a1 a2 a3 μ = some out) : Met l yX7_hasDotAt (wU (Cond.code yX7_hasDotAt cX7_hasDotAt 6 (some .boolean))) ({ frames := 1, cells := 0, slots := 0, locals := 21 } : Room) (PcW G b μ [.ref (b + t), .int a1, .int a2, .int a3]) (QW G b μ (some (.int out))) 0 0 (fb b) :=
  met_of [.ref (b + t), .int a1, .int a2, .int a3] (by decide) (Nat.le_of_ble_eq_true rfl) (fun F hr hW hl => wk_X7_hasDotAt F hr ht h hW va_S.rf hl)
set_option maxHeartbeats 4000000 in
set_option maxRecDepth 100000 in
theorem k_X7_hasDotAt {own : String} {nL : Nat} (F : FX G b own cc nL p s m args meth c) {t : Nat} {a1 : Int32} {a2 : Int32} {a3 : Int32} {μ : Mm} {out : Int32} (ht : okTa t) (h : sh_X7_hasDotAt t a1 a2 a3 μ = some out) {index : Nat} (hl : Cond.methodLink own index yX7_hasDotAt ∈ TBG) (hR : 1 + 1 ≤ R.frames ∧ 8 + (6 + 11) + 21 ≤ R.locals ∧ cells ≤ R.cells ∧ slots ≤ R.slots) (hW : WH G b μ H) (hS : va_S (fb b) s.heap H locs) (hsz : ls.size = nL) (hrest : (rest.map fun v => v.category).sum ≤ 8) (hdg : decode cc pc = .ok (.invokevirtual index, 3))
    (kk : ∀ (H1 : Heap) (locs1 : List Loc), WH G b μ H1 → va_S (fb b) s.heap H1 locs1 → W p l e R s m args below meth c H1 locs1 cells slots Q (F0 m (pc + 3) ls (.int out :: rest))) : W p l e R s m args below meth c H locs cells slots Q (F0 m pc ls (.int a3 :: .int a2 :: .int a1 :: .ref (b + t) :: rest)) :=
  f_callV (As := [.int a1, .int a2, .int a3]) (ci := 7) (c_X7_hasDotAt ht h) ⟨rfl, rfl⟩ rfl (ky_lt ht.1 (by decide)) (wF_7 ht.1) q_1252 q_1253 q_12 q_1254 rfl ⟨by decide +kernel, by decide +kernel, (show (parseMethodDescriptor yX7_hasDotAt.desc).map (fun d => d.parameters.length) = some 3 by decide +kernel)⟩ F hl hR hW hS hsz hrest rfl hdg kk
set_option maxHeartbeats 4000000 in
set_option maxRecDepth 100000 in
theorem wk_X7_lineBehind {t : Nat} {a1 : Int32} {μ : Mm} {out : Int32} (F : FX G b RX7 cX7_lineBehind 2 p s m args meth c) (hr : meth.sig.returnType = some .int) (ht : okTa t) (h : sh_X7_lineBehind t a1 μ = some out) (hW : WH G b μ H) (hS : va_S (fb b) s.heap H locs) (hl : lv_has ls 2 [(0, .ref (b + t)), (1, .int a1)]) : W p l e ({ frames := 1, cells := 0, slots := 0, locals := 21 } : Room) s m args below meth c H locs 0 0 (MQ below (QW G b μ (some (.int out))) args s 0 0 (fb b)) (F0 m 0 ls []) := by
  have hx := F.1
  have hb := F.2.1
  unfold sh_X7_lineBehind at h
  refine lv_aload_n hx hb dX7_lineBehind_0 rfl (lv_at hl 0 rfl) ?_
  refine fl_get7 (v := .ref (b + (t + 11))) (ht).1 F hW 8 (by decide) q_326 rfl rfl dX7_lineBehind_1 ?_
  refine lv_iload_n hx hb dX7_lineBehind_4 rfl (lv_at hl 1 rfl) ?_
  obtain ⟨r1, qr1, h⟩ := ob h
  refine k_X5_at F (ht).2.2.2.2.2.2.1 qr1 q_503 ⟨Nat.le_of_ble_eq_true rfl, Nat.le_of_ble_eq_true rfl, Nat.le_of_ble_eq_true rfl, Nat.le_of_ble_eq_true rfl⟩ hW hS hl.1 (Nat.le_of_ble_eq_true rfl) dX7_lineBehind_5 (fun H locs hW hS => ?_)
  refine lv_aload_n hx hb dX7_lineBehind_8 rfl (lv_at hl 0 rfl) ?_
  refine fl_get7 (v := .ref (b + (t + 13))) (ht).1 F hW 9 (by decide) q_328 rfl rfl dX7_lineBehind_9 ?_
  refine lv_iload_n hx hb dX7_lineBehind_12 rfl (lv_at hl 1 rfl) ?_
  obtain ⟨r2, qr2, h⟩ := ob h
  refine k_X5_at F (ht).2.2.2.2.2.2.2.1 qr2 q_503 ⟨Nat.le_of_ble_eq_true rfl, Nat.le_of_ble_eq_true rfl, Nat.le_of_ble_eq_true rfl, Nat.le_of_ble_eq_true rfl⟩ hW hS hl.1 (Nat.le_of_ble_eq_true rfl) dX7_lineBehind_13 (fun H locs hW hS => ?_)
  refine lv_iadd hx hb dX7_lineBehind_16 ?_
  cases h
  exact r_int F hr hW hS dX7_lineBehind_17
set_option maxHeartbeats 4000000 in
set_option maxRecDepth 100000 in
theorem c_X7_lineBehind {l : Launch} {G : Gt} {b : Nat} {t : Nat} {a1 : Int32} {μ : Mm} {out : Int32} (ht : okTa t) (h : sh_X7_lineBehind t a1 μ = some out) : Met l yX7_lineBehind (wU (Cond.code yX7_lineBehind cX7_lineBehind 2 (some .int))) ({ frames := 1, cells := 0, slots := 0, locals := 21 } : Room) (PcW G b μ [.ref (b + t), .int a1]) (QW G b μ (some (.int out))) 0 0 (fb b) :=
  met_of [.ref (b + t), .int a1] (by decide) (Nat.le_of_ble_eq_true rfl) (fun F hr hW hl => wk_X7_lineBehind F hr ht h hW va_S.rf hl)
set_option maxHeartbeats 4000000 in
set_option maxRecDepth 100000 in
theorem k_X7_lineBehind {own : String} {nL : Nat} (F : FX G b own cc nL p s m args meth c) {t : Nat} {a1 : Int32} {μ : Mm} {out : Int32} (ht : okTa t) (h : sh_X7_lineBehind t a1 μ = some out) {index : Nat} (hl : Cond.methodLink own index yX7_lineBehind ∈ TBG) (hR : 1 + 1 ≤ R.frames ∧ 8 + (2 + 11) + 21 ≤ R.locals ∧ cells ≤ R.cells ∧ slots ≤ R.slots) (hW : WH G b μ H) (hS : va_S (fb b) s.heap H locs) (hsz : ls.size = nL) (hrest : (rest.map fun v => v.category).sum ≤ 8) (hdg : decode cc pc = .ok (.invokevirtual index, 3))
    (kk : ∀ (H1 : Heap) (locs1 : List Loc), WH G b μ H1 → va_S (fb b) s.heap H1 locs1 → W p l e R s m args below meth c H1 locs1 cells slots Q (F0 m (pc + 3) ls (.int out :: rest))) : W p l e R s m args below meth c H locs cells slots Q (F0 m pc ls (.int a1 :: .ref (b + t) :: rest)) :=
  f_callV (As := [.int a1]) (ci := 7) (c_X7_lineBehind ht h) ⟨rfl, rfl⟩ rfl (ky_lt ht.1 (by decide)) (wF_7 ht.1) q_835 q_836 q_12 q_837 rfl ⟨by decide +kernel, by decide +kernel, (show (parseMethodDescriptor yX7_lineBehind.desc).map (fun d => d.parameters.length) = some 1 by decide +kernel)⟩ F hl hR hW hS hsz hrest rfl hdg kk
set_option maxHeartbeats 4000000 in
set_option maxRecDepth 100000 in
theorem wk_X7_isLastLine {t : Nat} {a1 : Int32} {μ : Mm} {out : Int32} (F : FX G b RX7 cX7_isLastLine 3 p s m args meth c) (hr : meth.sig.returnType = some .boolean) (ht : okTa t) (h : sh_X7_isLastLine t a1 μ = some out) (hW : WH G b μ H) (hS : va_S (fb b) s.heap H locs) (hl : lv_has ls 3 [(0, .ref (b + t)), (1, .int a1)]) : W p l e ({ frames := 2, cells := 0, slots := 0, locals := 42 } : Room) s m args below meth c H locs 0 0 (MQ below (QW G b μ (some (.int out))) args s 0 0 (fb b)) (F0 m 0 ls []) := by
  have hx := F.1
  have hb := F.2.1
  unfold sh_X7_isLastLine at h
  refine lv_aload_n hx hb dX7_isLastLine_0 rfl (lv_at hl 0 rfl) ?_
  refine fl_get7 (v := .ref (b + (t + 1))) (ht).1 F hW 3 (by decide) q_313 rfl rfl dX7_isLastLine_1 ?_
  refine lv_iload_n hx hb dX7_isLastLine_4 rfl (lv_at hl 1 rfl) ?_
  obtain ⟨r1, qr1, h⟩ := ob h
  refine k_X5_at F (ht).2.1 qr1 q_503 ⟨Nat.le_of_ble_eq_true rfl, Nat.le_of_ble_eq_true rfl, Nat.le_of_ble_eq_true rfl, Nat.le_of_ble_eq_true rfl⟩ hW hS hl.1 (Nat.le_of_ble_eq_true rfl) dX7_isLastLine_5 (fun H locs hW hS => ?_)
  refine lv_istore_n (lv' := [(2, .int r1), (0, .ref (b + t)), (1, .int a1)]) hx hb dX7_isLastLine_8 rfl hl (by decide) rfl (fun ls hl => ?_)
  refine lv_iload_n hx hb dX7_isLastLine_9 rfl (lv_at hl 2 rfl) ?_
  refine lv_aload_n hx hb dX7_isLastLine_10 rfl (lv_at hl 1 rfl) ?_
  refine lv_iload_n hx hb dX7_isLastLine_11 rfl (lv_at hl 0 rfl) ?_
  obtain ⟨r2, qr2, h⟩ := ob h
  refine k_X7_lineBehind F ht qr2 q_834 ⟨Nat.le_of_ble_eq_true rfl, Nat.le_of_ble_eq_true rfl, Nat.le_of_ble_eq_true rfl, Nat.le_of_ble_eq_true rfl⟩ hW hS hl.1 (Nat.le_of_ble_eq_true rfl) dX7_isLastLine_12 (fun H locs hW hS => ?_)
  refine lv_iconst (v := (1 : Int32)) hx hb dX7_isLastLine_15 (by decide) ?_
  refine lv_isub hx hb dX7_isLastLine_16 ?_
  refine lv_icmp_ne (tgt := 24) hx hb dX7_isLastLine_17 (by decide) (fun cc => ?_) (fun cc => ?_)
  · replace h := (if_neg cc).symm.trans h
    refine lv_iconst (v := (0 : Int32)) hx hb dX7_isLastLine_24 (by decide) ?_
    cases h
    exact r_bool F hr (Or.inl rfl) hW hS dX7_isLastLine_25
  · replace h := (if_pos cc).symm.trans h
    refine lv_iconst (v := (1 : Int32)) hx hb dX7_isLastLine_20 (by decide) ?_
    refine lv_goto (tgt := 25) hx hb dX7_isLastLine_21 (by decide) ?_
    cases h
    exact r_bool F hr (Or.inr rfl) hW hS dX7_isLastLine_25
set_option maxHeartbeats 4000000 in
set_option maxRecDepth 100000 in
theorem c_X7_isLastLine {l : Launch} {G : Gt} {b : Nat} {t : Nat} {a1 : Int32} {μ : Mm} {out : Int32} (ht : okTa t) (h : sh_X7_isLastLine t a1 μ = some out) : Met l yX7_isLastLine (wU (Cond.code yX7_isLastLine cX7_isLastLine 3 (some .boolean))) ({ frames := 2, cells := 0, slots := 0, locals := 42 } : Room) (PcW G b μ [.ref (b + t), .int a1]) (QW G b μ (some (.int out))) 0 0 (fb b) :=
  met_of [.ref (b + t), .int a1] (by decide) (Nat.le_of_ble_eq_true rfl) (fun F hr hW hl => wk_X7_isLastLine F hr ht h hW va_S.rf hl)
set_option maxHeartbeats 4000000 in
set_option maxRecDepth 100000 in
theorem k_X7_isLastLine {own : String} {nL : Nat} (F : FX G b own cc nL p s m args meth c) {t : Nat} {a1 : Int32} {μ : Mm} {out : Int32} (ht : okTa t) (h : sh_X7_isLastLine t a1 μ = some out) {index : Nat} (hl : Cond.methodLink own index yX7_isLastLine ∈ TBG) (hR : 2 + 1 ≤ R.frames ∧ 8 + (3 + 11) + 42 ≤ R.locals ∧ cells ≤ R.cells ∧ slots ≤ R.slots) (hW : WH G b μ H) (hS : va_S (fb b) s.heap H locs) (hsz : ls.size = nL) (hrest : (rest.map fun v => v.category).sum ≤ 8) (hdg : decode cc pc = .ok (.invokevirtual index, 3))
    (kk : ∀ (H1 : Heap) (locs1 : List Loc), WH G b μ H1 → va_S (fb b) s.heap H1 locs1 → W p l e R s m args below meth c H1 locs1 cells slots Q (F0 m (pc + 3) ls (.int out :: rest))) : W p l e R s m args below meth c H locs cells slots Q (F0 m pc ls (.int a1 :: .ref (b + t) :: rest)) :=
  f_callV (As := [.int a1]) (ci := 7) (c_X7_isLastLine ht h) ⟨rfl, rfl⟩ rfl (ky_lt ht.1 (by decide)) (wF_7 ht.1) q_831 q_832 q_12 q_833 rfl ⟨by decide +kernel, by decide +kernel, (show (parseMethodDescriptor yX7_isLastLine.desc).map (fun d => d.parameters.length) = some 1 by decide +kernel)⟩ F hl hR hW hS hsz hrest rfl hdg kk
set_option maxHeartbeats 4000000 in
set_option maxRecDepth 100000 in
theorem wk_X7_isBeyondLimit {t : Nat} {a1 : Int32} {μ : Mm} {out : Int32} (F : FX G b RX7 cX7_isBeyondLimit 2 p s m args meth c) (hr : meth.sig.returnType = some .boolean) (ht : okTa t) (h : sh_X7_isBeyondLimit t a1 μ = some out) (hW : WH G b μ H) (hS : va_S (fb b) s.heap H locs) (hl : lv_has ls 2 [(0, .ref (b + t)), (1, .int a1)]) : W p l e ({ frames := 1, cells := 0, slots := 0, locals := 21 } : Room) s m args below meth c H locs 0 0 (MQ below (QW G b μ (some (.int out))) args s 0 0 (fb b)) (F0 m 0 ls []) := by
  have hx := F.1
  have hb := F.2.1
  unfold sh_X7_isBeyondLimit at h
  refine lv_aload_n hx hb dX7_isBeyondLimit_0 rfl (lv_at hl 0 rfl) ?_
  refine fl_get7 (v := .ref (b + (t + 5))) (ht).1 F hW 5 (by decide) q_319 rfl rfl dX7_isBeyondLimit_1 ?_
  refine lv_iload_n hx hb dX7_isBeyondLimit_4 rfl (lv_at hl 1 rfl) ?_
  obtain ⟨r1, qr1, h⟩ := ob h
  refine k_X5_at F (ht).2.2.2.1 qr1 q_503 ⟨Nat.le_of_ble_eq_true rfl, Nat.le_of_ble_eq_true rfl, Nat.le_of_ble_eq_true rfl, Nat.le_of_ble_eq_true rfl⟩ hW hS hl.1 (Nat.le_of_ble_eq_true rfl) dX7_isBeyondLimit_5 (fun H locs hW hS => ?_)
  refine lv_aload_n hx hb dX7_isBeyondLimit_8 rfl (lv_at hl 0 rfl) ?_
  refine fl_get7 (v := .int (μ.1 t 1)) (ht).1 F hW 1 (by decide) q_308 rfl rfl dX7_isBeyondLimit_9 ?_
  refine lv_icmp_le (tgt := 19) hx hb dX7_isBeyondLimit_12 (by decide) (fun cc => ?_) (fun cc => ?_)
  · replace h := (if_pos cc).symm.trans h
    refine lv_iconst (v := (0 : Int32)) hx hb dX7_isBeyondLimit_19 (by decide) ?_
    cases h
    exact r_bool F hr (Or.inl rfl) hW hS dX7_isBeyondLimit_20
  · replace h := (if_neg cc).symm.trans h
    refine lv_iconst (v := (1 : Int32)) hx hb dX7_isBeyondLimit_15 (by decide) ?_
    refine lv_goto (tgt := 20) hx hb dX7_isBeyondLimit_16 (by decide) ?_
    cases h
    exact r_bool F hr (Or.inr rfl) hW hS dX7_isBeyondLimit_20
set_option maxHeartbeats 4000000 in
set_option maxRecDepth 100000 in
theorem c_X7_isBeyondLimit {l : Launch} {G : Gt} {b : Nat} {t : Nat} {a1 : Int32} {μ : Mm} {out : Int32} (ht : okTa t) (h : sh_X7_isBeyondLimit t a1 μ = some out) : Met l yX7_isBeyondLimit (wU (Cond.code yX7_isBeyondLimit cX7_isBeyondLimit 2 (some .boolean))) ({ frames := 1, cells := 0, slots := 0, locals := 21 } : Room) (PcW G b μ [.ref (b + t), .int a1]) (QW G b μ (some (.int out))) 0 0 (fb b) :=
  met_of [.ref (b + t), .int a1] (by decide) (Nat.le_of_ble_eq_true rfl) (fun F hr hW hl => wk_X7_isBeyondLimit F hr ht h hW va_S.rf hl)
set_option maxHeartbeats 4000000 in
set_option maxRecDepth 100000 in
theorem k_X7_isBeyondLimit {own : String} {nL : Nat} (F : FX G b own cc nL p s m args meth c) {t : Nat} {a1 : Int32} {μ : Mm} {out : Int32} (ht : okTa t) (h : sh_X7_isBeyondLimit t a1 μ = some out) {index : Nat} (hl : Cond.methodLink own index yX7_isBeyondLimit ∈ TBG) (hR : 1 + 1 ≤ R.frames ∧ 8 + (2 + 11) + 21 ≤ R.locals ∧ cells ≤ R.cells ∧ slots ≤ R.slots) (hW : WH G b μ H) (hS : va_S (fb b) s.heap H locs) (hsz : ls.size = nL) (hrest : (rest.map fun v => v.category).sum ≤ 8) (hdg : decode cc pc = .ok (.invokevirtual index, 3))
    (kk : ∀ (H1 : Heap) (locs1 : List Loc), WH G b μ H1 → va_S (fb b) s.heap H1 locs1 → W p l e R s m args below meth c H1 locs1 cells slots Q (F0 m (pc + 3) ls (.int out :: rest))) : W p l e R s m args below meth c H locs cells slots Q (F0 m pc ls (.int a1 :: .ref (b + t) :: rest)) :=
  f_callV (As := [.int a1]) (ci := 7) (c_X7_isBeyondLimit ht h) ⟨rfl, rfl⟩ rfl (ky_lt ht.1 (by decide)) (wF_7 ht.1) q_810 q_811 q_12 q_812 rfl ⟨by decide +kernel, by decide +kernel, (show (parseMethodDescriptor yX7_isBeyondLimit.desc).map (fun d => d.parameters.length) = some 1 by decide +kernel)⟩ F hl hR hW hS hsz hrest rfl hdg kk
set_option maxHeartbeats 4000000 in
set_option maxRecDepth 100000 in
theorem wk_X7_linesBeyondLimit_4 {n : Nat} {t : Nat} {μ : Mm} {out : Int32} (F : FX G b RX7 cX7_linesBeyondLimit 3 p s m args meth c) (hr : meth.sig.returnType = some .int) (ht : okTa t) : ∀ (f : Nat) (x1 : Int32) (x2 : Int32) (H : Heap) (locs : List Loc) (ls : Array Slot), sh_X7_linesBeyondLimit_4 n t μ f x1 x2 = some out → WH G b μ H → va_S (fb b) s.heap H locs → lv_has ls 3 [(0, .ref (b + t)), (1, .int x1), (2, .int x2)] → W p l e ({ frames := 2, cells := 0, slots := 0, locals := 42 } : Room) s m args below meth c H locs 0 0 (MQ below (QW G b μ (some (.int out))) args s 0 0 (fb b)) (F0 m 4 ls []) := by
  have hx := F.1
  have hb := F.2.1
  intro f
  induction f with
  | zero =>
    intro _ _ _ _ _ h
    rw [sh_X7_linesBeyondLimit_4] at h
    cases h
  | succ f ih =>
    intro x1 x2  H locs ls h hW hS hl
    rw [sh_X7_linesBeyondLimit_4] at h
    have hk4 := ih
    refine lv_iload_n hx hb dX7_linesBeyondLimit_4 rfl (lv_at hl 2 rfl) ?_
    refine lv_aload_n hx hb dX7_linesBeyondLimit_5 rfl (lv_at hl 0 rfl) ?_
    refine fl_get7 (v := .int (μ.1 t 2)) (ht).1 F hW 2 (by decide) q_310 rfl rfl dX7_linesBeyondLimit_6 ?_
    refine lv_icmp_ge (tgt := 29) hx hb dX7_linesBeyondLimit_9 (by decide) (fun cc => ?_) (fun cc => ?_)
    · replace h := (if_pos cc).symm.trans h
      refine lv_iload_n hx hb dX7_linesBeyondLimit_29 rfl (lv_at hl 1 rfl) ?_
      cases h
      exact r_int F hr hW hS dX7_linesBeyondLimit_30
    · replace h := (if_neg cc).symm.trans h
      refine lv_aload_n hx hb dX7_linesBeyondLimit_12 rfl (lv_at hl 0 rfl) ?_
      refine lv_iload_n hx hb dX7_linesBeyondLimit_13 rfl (lv_at hl 2 rfl) ?_
      obtain ⟨r1, qr1, h⟩ := ob h
      refine k_X7_isBeyondLimit F ht qr1 q_809 ⟨Nat.le_of_ble_eq_true rfl, Nat.le_of_ble_eq_true rfl, Nat.le_of_ble_eq_true rfl, Nat.le_of_ble_eq_true rfl⟩ hW hS hl.1 (Nat.le_of_ble_eq_true rfl) dX7_linesBeyondLimit_14 (fun H locs hW hS => ?_)
      refine lv_if_eq (tgt := 23) hx hb dX7_linesBeyondLimit_17 (by decide) (fun cc => ?_) (fun cc => ?_)
      · replace h := (if_pos cc).symm.trans h
        refine lv_iinc (v := (x2 + (1 : Int32))) (lv' := [(2, .int (x2 + (1 : Int32))), (0, .ref (b + t)), (1, .int x1)]) hx hb dX7_linesBeyondLimit_23 hl (k := 2) rfl rfl (by decide) rfl (fun ls hl => ?_)
        refine lv_goto (tgt := 4) hx hb dX7_linesBeyondLimit_26 (by decide) ?_
        exact hk4 _ _ _ _ _ h hW hS (lv_sub hl [1, 2, 0] rfl)
      · replace h := (if_neg cc).symm.trans h
        refine lv_iinc (v := (x1 + (1 : Int32))) (lv' := [(1, .int (x1 + (1 : Int32))), (0, .ref (b + t)), (2, .int x2)]) hx hb dX7_linesBeyondLimit_20 hl (k := 1) rfl rfl (by decide) rfl (fun ls hl => ?_)
        refine lv_iinc (v := (x2 + (1 : Int32))) (lv' := [(2, .int (x2 + (1 : Int32))), (1, .int (x1 + (1 : Int32))), (0, .ref (b + t))]) hx hb dX7_linesBeyondLimit_23 hl (k := 2) rfl rfl (by decide) rfl (fun ls hl => ?_)
        refine lv_goto (tgt := 4) hx hb dX7_linesBeyondLimit_26 (by decide) ?_
        exact hk4 _ _ _ _ _ h hW hS (lv_sub hl [2, 1, 0] rfl)
set_option maxHeartbeats 4000000 in
set_option maxRecDepth 100000 in
theorem wk_X7_linesBeyondLimit {n : Nat} {t : Nat} {μ : Mm} {out : Int32} (F : FX G b RX7 cX7_linesBeyondLimit 3 p s m args meth c) (hr : meth.sig.returnType = some .int) (ht : okTa t) (h : sh_X7_linesBeyondLimit n t μ = some out) (hW : WH G b μ H) (hS : va_S (fb b) s.heap H locs) (hl : lv_has ls 3 [(0, .ref (b + t))]) : W p l e ({ frames := 2, cells := 0, slots := 0, locals := 42 } : Room) s m args below meth c H locs 0 0 (MQ below (QW G b μ (some (.int out))) args s 0 0 (fb b)) (F0 m 0 ls []) := by
  have hx := F.1
  have hb := F.2.1
  unfold sh_X7_linesBeyondLimit at h
  refine lv_iconst (v := (0 : Int32)) hx hb dX7_linesBeyondLimit_0 (by decide) ?_
  refine lv_istore_n (lv' := [(1, .int (0 : Int32)), (0, .ref (b + t))]) hx hb dX7_linesBeyondLimit_1 rfl hl (by decide) rfl (fun ls hl => ?_)
  refine lv_iconst (v := (0 : Int32)) hx hb dX7_linesBeyondLimit_2 (by decide) ?_
  refine lv_istore_n (lv' := [(2, .int (0 : Int32)), (1, .int (0 : Int32)), (0, .ref (b + t))]) hx hb dX7_linesBeyondLimit_3 rfl hl (by decide) rfl (fun ls hl => ?_)
  exact wk_X7_linesBeyondLimit_4 F hr ht n _ _ _ _ _ h hW hS (lv_sub hl [2, 1, 0] rfl)
set_option maxHeartbeats 4000000 in
set_option maxRecDepth 100000 in
theorem c_X7_linesBeyondLimit {l : Launch} {G : Gt} {b : Nat} {n : Nat} {t : Nat} {μ : Mm} {out : Int32} (ht : okTa t) (h : sh_X7_linesBeyondLimit n t μ = some out) : Met l yX7_linesBeyondLimit (wU (Cond.code yX7_linesBeyondLimit cX7_linesBeyondLimit 3 (some .int))) ({ frames := 2, cells := 0, slots := 0, locals := 42 } : Room) (PcW G b μ [.ref (b + t)]) (QW G b μ (some (.int out))) 0 0 (fb b) :=
  met_of [.ref (b + t)] (by decide) (Nat.le_of_ble_eq_true rfl) (fun F hr hW hl => wk_X7_linesBeyondLimit F hr ht h hW va_S.rf hl)
set_option maxHeartbeats 4000000 in
set_option maxRecDepth 100000 in
theorem k_X7_linesBeyondLimit {own : String} {nL : Nat} (F : FX G b own cc nL p s m args meth c) {n : Nat} {t : Nat} {μ : Mm} {out : Int32} (ht : okTa t) (h : sh_X7_linesBeyondLimit n t μ = some out) {index : Nat} (hl : Cond.methodLink own index yX7_linesBeyondLimit ∈ TBG) (hR : 2 + 1 ≤ R.frames ∧ 8 + (3 + 11) + 42 ≤ R.locals ∧ cells ≤ R.cells ∧ slots ≤ R.slots) (hW : WH G b μ H) (hS : va_S (fb b) s.heap H locs) (hsz : ls.size = nL) (hrest : (rest.map fun v => v.category).sum ≤ 8) (hdg : decode cc pc = .ok (.invokevirtual index, 3))
    (kk : ∀ (H1 : Heap) (locs1 : List Loc), WH G b μ H1 → va_S (fb b) s.heap H1 locs1 → W p l e R s m args below meth c H1 locs1 cells slots Q (F0 m (pc + 3) ls (.int out :: rest))) : W p l e R s m args below meth c H locs cells slots Q (F0 m pc ls (.ref (b + t) :: rest)) :=
  f_callV (As := []) (ci := 7) (c_X7_linesBeyondLimit ht h) ⟨rfl, rfl⟩ rfl (ky_lt ht.1 (by decide)) (wF_7 ht.1) q_806 q_807 q_12 q_808 rfl ⟨by decide +kernel, by decide +kernel, (show (parseMethodDescriptor yX7_linesBeyondLimit.desc).map (fun d => d.parameters.length) = some 0 by decide +kernel)⟩ F hl hR hW hS hsz hrest rfl hdg kk
set_option maxHeartbeats 4000000 in
set_option maxRecDepth 100000 in
theorem wk_X1_lay_21 {n : Nat} {t : Nat} {a1 : Nat} {out : Mm} (F : FX G b RX1 cX1_lay 5 p s m args meth c) (hr : meth.sig.returnType = none) (ht : okLa t) (ha1 : okBk a1) : ∀ (f : Nat) (x2 : Int32) (x3 : Int32) (μ : Mm) (H : Heap) (locs : List Loc) (ls : Array Slot), sh_X1_lay_21 n t a1 f x2 x3 μ = some out → WH G b μ H → va_S (fb b) s.heap H locs → lv_has ls 5 [(0, .ref (b + t)), (1, .ref (b + a1)), (2, .int x2), (3, .int x3)] → W p l e ({ frames := 4, cells := 0, slots := 0, locals := 98 } : Room) s m args below meth c H locs 0 0 (MQ below (QW G b out none) args s 0 0 (fb b)) (F0 m 21 ls []) := by
  have hx := F.1
  have hb := F.2.1
  intro f
  induction f with
  | zero =>
    intro _ _ _ _ _ _ h
    rw [sh_X1_lay_21] at h
    cases h
  | succ f ih =>
    intro x2 x3 μ H locs ls h hW hS hl
    rw [sh_X1_lay_21] at h
    have hk21 := ih
    refine lv_iload_n hx hb dX1_lay_21 rfl (lv_at hl 3 rfl) ?_
    refine lv_bipush (v := (8 : Int32)) hx hb dX1_lay_22 (by decide) ?_
    refine lv_icmp_ge (tgt := 121) hx hb dX1_lay_24 (by decide) (fun cc => ?_) (fun cc => ?_)
    · replace h := (if_pos cc).symm.trans h
      refine lv_aload_n hx hb dX1_lay_121 rfl (lv_at hl 0 rfl) ?_
      refine lv_iload_n hx hb dX1_lay_122 rfl (lv_at hl 2 rfl) ?_
      obtain ⟨μ3, hmμ3, h⟩ := ob h
      refine fl_put1_3 (ht).1 F hW hS q_366 hmμ3 dX1_lay_123 (fun H locs hW hS => ?_)
      refine lv_aload_n hx hb dX1_lay_126 rfl (lv_at hl 0 rfl) ?_
      refine fl_get1 (v := .ref (b + (t + 14))) (ht).1 F hW 1 (by decide) q_362 rfl rfl dX1_lay_127 ?_
      refine lv_aload_n hx hb dX1_lay_130 rfl (lv_at hl 1 rfl) ?_
      refine lv_aload_n hx hb dX1_lay_131 rfl (lv_at hl 0 rfl) ?_
      refine fl_get1 (v := .int (μ3.1 t 3)) (ht).1 F hW 3 (by decide) q_366 rfl rfl dX1_lay_132 ?_
      obtain ⟨r4, qr4, h⟩ := ob h
      refine k_X3_lay F (ht).2.2.1 ha1 qr4 q_467 ⟨Nat.le_of_ble_eq_true rfl, Nat.le_of_ble_eq_true rfl, Nat.le_of_ble_eq_true rfl, Nat.le_of_ble_eq_true rfl⟩ hW hS hl.1 (Nat.le_of_ble_eq_true rfl) dX1_lay_135 (fun H locs hW hS => ?_)
      refine lv_aload_n hx hb dX1_lay_138 rfl (lv_at hl 0 rfl) ?_
      refine fl_get1 (v := .ref (b + (t + 23))) (ht).1 F hW 2 (by decide) q_364 rfl rfl dX1_lay_139 ?_
      refine lv_aload_n hx hb dX1_lay_142 rfl (lv_at hl 1 rfl) ?_
      refine lv_aload_n hx hb dX1_lay_143 rfl (lv_at hl 0 rfl) ?_
      refine fl_get1 (v := .ref (b + (t + 1))) (ht).1 F hW 0 (by decide) q_360 rfl rfl dX1_lay_144 ?_
      refine lv_aload_n hx hb dX1_lay_147 rfl (lv_at hl 0 rfl) ?_
      refine fl_get1 (v := .ref (b + (t + 14))) (ht).1 F hW 1 (by decide) q_362 rfl rfl dX1_lay_148 ?_
      obtain ⟨r5, qr5, h⟩ := ob h
      refine k_X7_lay F (ht).2.2.2 ha1 (ht).2.1 (ht).2.2.1 qr5 q_499 ⟨Nat.le_of_ble_eq_true rfl, Nat.le_of_ble_eq_true rfl, Nat.le_of_ble_eq_true rfl, Nat.le_of_ble_eq_true rfl⟩ hW hS hl.1 (Nat.le_of_ble_eq_true rfl) dX1_lay_151 (fun H locs hW hS => ?_)
      cases h
      exact r_void F hr hW hS dX1_lay_154
    · replace h := (if_neg cc).symm.trans h
      refine lv_aload_n hx hb dX1_lay_27 rfl (lv_at hl 0 rfl) ?_
      refine fl_get1 (v := .ref (b + (t + 14))) (ht).1 F hW 1 (by decide) q_362 rfl rfl dX1_lay_28 ?_
      refine lv_aload_n hx hb dX1_lay_31 rfl (lv_at hl 1 rfl) ?_
      refine lv_aload_n hx hb dX1_lay_32 rfl (lv_at hl 0 rfl) ?_
      refine fl_get1 (v := .int (μ.1 t 3)) (ht).1 F hW 3 (by decide) q_366 rfl rfl dX1_lay_33 ?_
      obtain ⟨r6, qr6, h⟩ := ob h
      refine k_X3_lay F (ht).2.2.1 ha1 qr6 q_467 ⟨Nat.le_of_ble_eq_true rfl, Nat.le_of_ble_eq_true rfl, Nat.le_of_ble_eq_true rfl, Nat.le_of_ble_eq_true rfl⟩ hW hS hl.1 (Nat.le_of_ble_eq_true rfl) dX1_lay_36 (fun H locs hW hS => ?_)
      refine lv_aload_n hx hb dX1_lay_39 rfl (lv_at hl 0 rfl) ?_
      refine fl_get1 (v := .ref (b + (t + 23))) (ht).1 F hW 2 (by decide) q_364 rfl rfl dX1_lay_40 ?_
      refine lv_aload_n hx hb dX1_lay_43 rfl (lv_at hl 1 rfl) ?_
      refine lv_aload_n hx hb dX1_lay_44 rfl (lv_at hl 0 rfl) ?_
      refine fl_get1 (v := .ref (b + (t + 1))) (ht).1 F hW 0 (by decide) q_360 rfl rfl dX1_lay_45 ?_
      refine lv_aload_n hx hb dX1_lay_48 rfl (lv_at hl 0 rfl) ?_
      refine fl_get1 (v := .ref (b + (t + 14))) (ht).1 F hW 1 (by decide) q_362 rfl rfl dX1_lay_49 ?_
      obtain ⟨r7, qr7, h⟩ := ob h
      refine k_X7_lay F (ht).2.2.2 ha1 (ht).2.1 (ht).2.2.1 qr7 q_499 ⟨Nat.le_of_ble_eq_true rfl, Nat.le_of_ble_eq_true rfl, Nat.le_of_ble_eq_true rfl, Nat.le_of_ble_eq_true rfl⟩ hW hS hl.1 (Nat.le_of_ble_eq_true rfl) dX1_lay_52 (fun H locs hW hS => ?_)
      refine lv_aload_n hx hb dX1_lay_55 rfl (lv_at hl 0 rfl) ?_
      refine lv_dup hx hb dX1_lay_56 rfl ?_
      refine fl_get1 (v := .int (r7.1 t 4)) (ht).1 F hW 4 (by decide) q_368 rfl rfl dX1_lay_57 ?_
      refine lv_aload_n hx hb dX1_lay_60 rfl (lv_at hl 1 rfl) ?_
      refine fl_get0 (v := .int (r7.1 a1 2)) (ha1).1 F hW 2 (by decide) q_163 rfl rfl dX1_lay_61 ?_
      refine lv_iconst (v := (1 : Int32)) hx hb dX1_lay_64 (by decide) ?_
      refine fl_min F hl.1 q_464 q_465 q_3 mm_min (Nat.le_of_ble_eq_true rfl) (Nat.le_of_ble_eq_true rfl) (Nat.zero_le _) (Nat.zero_le _) dX1_lay_65 ?_
      refine lv_iadd hx hb dX1_lay_68 ?_
      obtain ⟨μ8, hmμ8, h⟩ := ob h
      refine fl_put1_4 (ht).1 F hW hS q_368 hmμ8 dX1_lay_69 (fun H locs hW hS => ?_)
      refine lv_aload_n hx hb dX1_lay_72 rfl (lv_at hl 0 rfl) ?_
      refine fl_get1 (v := .ref (b + (t + 23))) (ht).1 F hW 2 (by decide) q_364 rfl rfl dX1_lay_73 ?_
      refine fl_get7 (v := .int (μ8.1 (t + 23) 2)) ((ht).2.2.2).1 F hW 2 (by decide) q_311 rfl rfl dX1_lay_76 ?_
      refine lv_aload_n hx hb dX1_lay_79 rfl (lv_at hl 1 rfl) ?_
      refine fl_get0 (v := .ref (b + (a1 + 1))) (ha1).1 F hW 0 (by decide) q_151 rfl rfl dX1_lay_80 ?_
      refine lv_iconst (v := (1 : Int32)) hx hb dX1_lay_83 (by decide) ?_
      obtain ⟨r9, qr9, h⟩ := ob h
      refine k_X5_at F (ha1).2.1 qr9 q_529 ⟨Nat.le_of_ble_eq_true rfl, Nat.le_of_ble_eq_true rfl, Nat.le_of_ble_eq_true rfl, Nat.le_of_ble_eq_true rfl⟩ hW hS hl.1 (Nat.le_of_ble_eq_true rfl) dX1_lay_84 (fun H locs hW hS => ?_)
      obtain ⟨r10, qr10, h⟩ := ob h
      refine k_X11_quotientUp_n F qr10 (by decide +kernel) ⟨Nat.le_of_ble_eq_true rfl, Nat.le_of_ble_eq_true rfl, Nat.le_of_ble_eq_true rfl, Nat.le_of_ble_eq_true rfl⟩ hW hS hl.1 (Nat.le_of_ble_eq_true rfl) dX1_lay_87 (fun H locs hW hS => ?_)
      refine lv_istore (lv' := [(4, .int r10), (0, .ref (b + t)), (1, .ref (b + a1)), (2, .int x2), (3, .int x3)]) hx hb dX1_lay_90 hl (by decide) rfl (fun ls hl => ?_)
      refine lv_iload hx hb dX1_lay_92 (lv_at hl 0 rfl) ?_
      refine lv_aload_n hx hb dX1_lay_94 rfl (lv_at hl 1 rfl) ?_
      refine fl_get1 (v := .int (μ8.1 t 3)) (ht).1 F hW 3 (by decide) q_366 rfl rfl dX1_lay_95 ?_
      refine lv_icmp_ne (tgt := 102) hx hb dX1_lay_98 (by decide) (fun cc => ?_) (fun cc => ?_)
      · replace h := (if_neg cc).symm.trans h
        refine lv_iload_n hx hb dX1_lay_102 rfl (lv_at hl 3 rfl) ?_
        refine lv_iload hx hb dX1_lay_103 (lv_at hl 0 rfl) ?_
        refine fl_max F hl.1 q_531 q_43 q_3 mm_max (Nat.le_of_ble_eq_true rfl) (Nat.le_of_ble_eq_true rfl) (Nat.zero_le _) (Nat.zero_le _) dX1_lay_105 ?_
        obtain ⟨v11, ev11⟩ : ∃ y, y = (if x2 < r10 then r10 else x2) := ⟨_, rfl⟩
        have h := nm_at ev11 h
        rw [← ev11]
        refine lv_istore_n (lv' := [(2, .int v11), (4, .int r10), (0, .ref (b + t)), (1, .ref (b + a1)), (3, .int x3)]) hx hb dX1_lay_108 rfl hl (by decide) rfl (fun ls hl => ?_)
        refine lv_aload_n hx hb dX1_lay_109 rfl (lv_at hl 2 rfl) ?_
        refine lv_iload hx hb dX1_lay_110 (lv_at hl 1 rfl) ?_
        obtain ⟨μ12, hmμ12, h⟩ := ob h
        refine fl_put1_3 (ht).1 F hW hS q_366 hmμ12 dX1_lay_112 (fun H locs hW hS => ?_)
        refine lv_iinc (v := (x3 + (1 : Int32))) (lv' := [(3, .int (x3 + (1 : Int32))), (2, .int v11), (4, .int r10), (0, .ref (b + t)), (1, .ref (b + a1))]) hx hb dX1_lay_115 hl (k := 4) rfl rfl (by decide) rfl (fun ls hl => ?_)
        refine lv_goto (tgt := 21) hx hb dX1_lay_118 (by decide) ?_
        exact hk21 _ _ _ _ _ _ h hW hS (lv_sub hl [3, 4, 1, 0] rfl)
      · replace h := (if_pos cc).symm.trans h
        cases h
        exact r_void F hr hW hS dX1_lay_101
set_option maxHeartbeats 4000000 in
set_option maxRecDepth 100000 in
theorem wk_X1_lay {n : Nat} {t : Nat} {a1 : Nat} {μ : Mm} {out : Mm} (F : FX G b RX1 cX1_lay 5 p s m args meth c) (hr : meth.sig.returnType = none) (ht : okLa t) (ha1 : okBk a1) (h : sh_X1_lay n t a1 μ = some out) (hW : WH G b μ H) (hS : va_S (fb b) s.heap H locs) (hl : lv_has ls 5 [(0, .ref (b + t)), (1, .ref (b + a1))]) : W p l e ({ frames := 4, cells := 0, slots := 0, locals := 98 } : Room) s m args below meth c H locs 0 0 (MQ below (QW G b out none) args s 0 0 (fb b)) (F0 m 0 ls []) := by
  have hx := F.1
  have hb := F.2.1
  unfold sh_X1_lay at h
  refine lv_aload_n hx hb dX1_lay_0 rfl (lv_at hl 0 rfl) ?_
  refine lv_iconst (v := (0 : Int32)) hx hb dX1_lay_1 (by decide) ?_
  obtain ⟨μ1, hmμ1, h⟩ := ob h
  refine fl_put1_4 (ht).1 F hW hS q_368 hmμ1 dX1_lay_2 (fun H locs hW hS => ?_)
  refine lv_aload_n hx hb dX1_lay_5 rfl (lv_at hl 0 rfl) ?_
  refine lv_aload_n hx hb dX1_lay_6 rfl (lv_at hl 1 rfl) ?_
  refine fl_get0 (v := .int (μ1.1 a1 2)) (ha1).1 F hW 2 (by decide) q_163 rfl rfl dX1_lay_7 ?_
  refine lv_iconst (v := (1 : Int32)) hx hb dX1_lay_10 (by decide) ?_
  refine fl_min F hl.1 q_464 q_465 q_3 mm_min (Nat.le_of_ble_eq_true rfl) (Nat.le_of_ble_eq_true rfl) (Nat.zero_le _) (Nat.zero_le _) dX1_lay_11 ?_
  obtain ⟨μ2, hmμ2, h⟩ := ob h
  refine fl_put1_3 (ht).1 F hW hS q_366 hmμ2 dX1_lay_14 (fun H locs hW hS => ?_)
  refine lv_iconst (v := (0 : Int32)) hx hb dX1_lay_17 (by decide) ?_
  refine lv_istore_n (lv' := [(2, .int (0 : Int32)), (0, .ref (b + t)), (1, .ref (b + a1))]) hx hb dX1_lay_18 rfl hl (by decide) rfl (fun ls hl => ?_)
  refine lv_iconst (v := (0 : Int32)) hx hb dX1_lay_19 (by decide) ?_
  refine lv_istore_n (lv' := [(3, .int (0 : Int32)), (2, .int (0 : Int32)), (0, .ref (b + t)), (1, .ref (b + a1))]) hx hb dX1_lay_20 rfl hl (by decide) rfl (fun ls hl => ?_)
  exact wk_X1_lay_21 F hr ht ha1 n _ _ _ _ _ _ h hW hS (lv_sub hl [2, 3, 1, 0] rfl)
set_option maxHeartbeats 4000000 in
set_option maxRecDepth 100000 in
theorem c_X1_lay {l : Launch} {G : Gt} {b : Nat} {n : Nat} {t : Nat} {a1 : Nat} {μ : Mm} {out : Mm} (ht : okLa t) (ha1 : okBk a1) (h : sh_X1_lay n t a1 μ = some out) : Met l yX1_lay (wU (Cond.code yX1_lay cX1_lay 5 none)) ({ frames := 4, cells := 0, slots := 0, locals := 98 } : Room) (PcW G b μ [.ref (b + t), .ref (b + a1)]) (QW G b out none) 0 0 (fb b) :=
  met_of [.ref (b + t), .ref (b + a1)] (by decide) (Nat.le_of_ble_eq_true rfl) (fun F hr hW hl => wk_X1_lay F hr ht ha1 h hW va_S.rf hl)
set_option maxHeartbeats 4000000 in
set_option maxRecDepth 100000 in
theorem k_X1_lay {own : String} {nL : Nat} (F : FX G b own cc nL p s m args meth c) {n : Nat} {t : Nat} {a1 : Nat} {μ : Mm} {out : Mm} (ht : okLa t) (ha1 : okBk a1) (h : sh_X1_lay n t a1 μ = some out) {index : Nat} (hl : Cond.methodLink own index yX1_lay ∈ TBG) (hR : 4 + 1 ≤ R.frames ∧ 8 + (5 + 11) + 98 ≤ R.locals ∧ cells ≤ R.cells ∧ slots ≤ R.slots) (hW : WH G b μ H) (hS : va_S (fb b) s.heap H locs) (hsz : ls.size = nL) (hrest : (rest.map fun v => v.category).sum ≤ 8) (hdg : decode cc pc = .ok (.invokevirtual index, 3))
    (kk : ∀ (H1 : Heap) (locs1 : List Loc), WH G b out H1 → va_S (fb b) s.heap H1 locs1 → W p l e R s m args below meth c H1 locs1 cells slots Q (F0 m (pc + 3) ls (rest))) : W p l e R s m args below meth c H locs cells slots Q (F0 m pc ls (.ref (b + a1) :: .ref (b + t) :: rest)) :=
  f_callV (As := [.ref (b + a1)]) (ci := 1) (c_X1_lay ht ha1 h) ⟨rfl, rfl⟩ rfl (ky_lt ht.1 (by decide)) (wF_1 ht.1) q_461 q_462 q_9 q_463 rfl ⟨by decide +kernel, by decide +kernel, (show (parseMethodDescriptor yX1_lay.desc).map (fun d => d.parameters.length) = some 1 by decide +kernel)⟩ F hl hR hW hS hsz hrest rfl hdg kk
set_option maxHeartbeats 4000000 in
set_option maxRecDepth 100000 in
theorem wk_X1_layAnew {n : Nat} {t : Nat} {a1 : Nat} {μ : Mm} {out : Mm} (F : FX G b RX1 cX1_layAnew 2 p s m args meth c) (hr : meth.sig.returnType = none) (ht : okLa t) (ha1 : okBk a1) (h : sh_X1_layAnew n t a1 μ = some out) (hW : WH G b μ H) (hS : va_S (fb b) s.heap H locs) (hl : lv_has ls 2 [(0, .ref (b + t)), (1, .ref (b + a1))]) : W p l e ({ frames := 5, cells := 0, slots := 0, locals := 122 } : Room) s m args below meth c H locs 0 0 (MQ below (QW G b out none) args s 0 0 (fb b)) (F0 m 0 ls []) := by
  have hx := F.1
  have hb := F.2.1
  unfold sh_X1_layAnew at h
  refine lv_aload_n hx hb dX1_layAnew_0 rfl (lv_at hl 0 rfl) ?_
  refine fl_get1 (v := .ref (b + (t + 1))) (ht).1 F hW 0 (by decide) q_360 rfl rfl dX1_layAnew_1 ?_
  refine lv_aload_n hx hb dX1_layAnew_4 rfl (lv_at hl 1 rfl) ?_
  obtain ⟨r1, qr1, h⟩ := ob h
  refine k_X2_measure F (ht).2.1 ha1 qr1 q_409 ⟨Nat.le_of_ble_eq_true rfl, Nat.le_of_ble_eq_true rfl, Nat.le_of_ble_eq_true rfl, Nat.le_of_ble_eq_true rfl⟩ hW hS hl.1 (Nat.le_of_ble_eq_true rfl) dX1_layAnew_5 (fun H locs hW hS => ?_)
  refine lv_aload_n hx hb dX1_layAnew_8 rfl (lv_at hl 0 rfl) ?_
  refine lv_aload_n hx hb dX1_layAnew_9 rfl (lv_at hl 1 rfl) ?_
  obtain ⟨r2, qr2, h⟩ := ob h
  refine k_X1_lay F ht ha1 qr2 q_460 ⟨Nat.le_of_ble_eq_true rfl, Nat.le_of_ble_eq_true rfl, Nat.le_of_ble_eq_true rfl, Nat.le_of_ble_eq_true rfl⟩ hW hS hl.1 (Nat.le_of_ble_eq_true rfl) dX1_layAnew_10 (fun H locs hW hS => ?_)
  cases h
  exact r_void F hr hW hS dX1_layAnew_13
set_option maxHeartbeats 4000000 in
set_option maxRecDepth 100000 in
theorem c_X1_layAnew {l : Launch} {G : Gt} {b : Nat} {n : Nat} {t : Nat} {a1 : Nat} {μ : Mm} {out : Mm} (ht : okLa t) (ha1 : okBk a1) (h : sh_X1_layAnew n t a1 μ = some out) : Met l yX1_layAnew (wU (Cond.code yX1_layAnew cX1_layAnew 2 none)) ({ frames := 5, cells := 0, slots := 0, locals := 122 } : Room) (PcW G b μ [.ref (b + t), .ref (b + a1)]) (QW G b out none) 0 0 (fb b) :=
  met_of [.ref (b + t), .ref (b + a1)] (by decide) (Nat.le_of_ble_eq_true rfl) (fun F hr hW hl => wk_X1_layAnew F hr ht ha1 h hW va_S.rf hl)
set_option maxHeartbeats 4000000 in
set_option maxRecDepth 100000 in
theorem k_X1_layAnew {own : String} {nL : Nat} (F : FX G b own cc nL p s m args meth c) {n : Nat} {t : Nat} {a1 : Nat} {μ : Mm} {out : Mm} (ht : okLa t) (ha1 : okBk a1) (h : sh_X1_layAnew n t a1 μ = some out) {index : Nat} (hl : Cond.methodLink own index yX1_layAnew ∈ TBG) (hR : 5 + 1 ≤ R.frames ∧ 8 + (2 + 11) + 122 ≤ R.locals ∧ cells ≤ R.cells ∧ slots ≤ R.slots) (hW : WH G b μ H) (hS : va_S (fb b) s.heap H locs) (hsz : ls.size = nL) (hrest : (rest.map fun v => v.category).sum ≤ 8) (hdg : decode cc pc = .ok (.invokevirtual index, 3))
    (kk : ∀ (H1 : Heap) (locs1 : List Loc), WH G b out H1 → va_S (fb b) s.heap H1 locs1 → W p l e R s m args below meth c H1 locs1 cells slots Q (F0 m (pc + 3) ls (rest))) : W p l e R s m args below meth c H locs cells slots Q (F0 m pc ls (.ref (b + a1) :: .ref (b + t) :: rest)) :=
  f_callV (As := [.ref (b + a1)]) (ci := 1) (c_X1_layAnew ht ha1 h) ⟨rfl, rfl⟩ rfl (ky_lt ht.1 (by decide)) (wF_1 ht.1) q_406 q_407 q_9 q_408 rfl ⟨by decide +kernel, by decide +kernel, (show (parseMethodDescriptor yX1_layAnew.desc).map (fun d => d.parameters.length) = some 1 by decide +kernel)⟩ F hl hR hW hS hsz hrest rfl hdg kk
set_option maxHeartbeats 4000000 in
set_option maxRecDepth 100000 in
theorem wk_X1_endsMainEntry {t : Nat} {a1 : Nat} {a2 : Int32} {μ : Mm} {out : Int32} (F : FX G b RX1 cX1_endsMainEntry 3 p s m args meth c) (hr : meth.sig.returnType = some .boolean) (ht : okLa t) (ha1 : okBk a1) (h : sh_X1_endsMainEntry t a1 a2 μ = some out) (hW : WH G b μ H) (hS : va_S (fb b) s.heap H locs) (hl : lv_has ls 3 [(0, .ref (b + t)), (1, .ref (b + a1)), (2, .int a2)]) : W p l e ({ frames := 3, cells := 0, slots := 0, locals := 64 } : Room) s m args below meth c H locs 0 0 (MQ below (QW G b μ (some (.int out))) args s 0 0 (fb b)) (F0 m 0 ls []) := by
  have hx := F.1
  have hb := F.2.1
  unfold sh_X1_endsMainEntry at h
  refine lv_aload_n hx hb dX1_endsMainEntry_0 rfl (lv_at hl 0 rfl) ?_
  refine fl_get1 (v := .ref (b + (t + 23))) (ht).1 F hW 2 (by decide) q_364 rfl rfl dX1_endsMainEntry_1 ?_
  refine lv_iload_n hx hb dX1_endsMainEntry_4 rfl (lv_at hl 2 rfl) ?_
  obtain ⟨r1, qr1, h⟩ := ob h
  refine k_X7_isLastLine F (ht).2.2.2 qr1 q_830 ⟨Nat.le_of_ble_eq_true rfl, Nat.le_of_ble_eq_true rfl, Nat.le_of_ble_eq_true rfl, Nat.le_of_ble_eq_true rfl⟩ hW hS hl.1 (Nat.le_of_ble_eq_true rfl) dX1_endsMainEntry_5 (fun H locs hW hS => ?_)
  refine lv_if_eq (tgt := 34) hx hb dX1_endsMainEntry_8 (by decide) (fun cc => ?_) (fun cc => ?_)
  · replace h := (if_pos cc).symm.trans h
    refine lv_iconst (v := (0 : Int32)) hx hb dX1_endsMainEntry_34 (by decide) ?_
    cases h
    exact r_bool F hr (Or.inl rfl) hW hS dX1_endsMainEntry_35
  · replace h := (if_neg cc).symm.trans h
    refine lv_aload_n hx hb dX1_endsMainEntry_11 rfl (lv_at hl 1 rfl) ?_
    refine lv_aload_n hx hb dX1_endsMainEntry_12 rfl (lv_at hl 0 rfl) ?_
    refine fl_get1 (v := .ref (b + (t + 23))) (ht).1 F hW 2 (by decide) q_364 rfl rfl dX1_endsMainEntry_13 ?_
    refine fl_get7 (v := .ref (b + (t + 24))) ((ht).2.2.2).1 F hW 3 (by decide) q_314 rfl rfl dX1_endsMainEntry_16 ?_
    refine lv_iload_n hx hb dX1_endsMainEntry_19 rfl (lv_at hl 2 rfl) ?_
    obtain ⟨r2, qr2, h⟩ := ob h
    refine k_X5_at F ((ht).2.2.2).2.1 qr2 q_529 ⟨Nat.le_of_ble_eq_true rfl, Nat.le_of_ble_eq_true rfl, Nat.le_of_ble_eq_true rfl, Nat.le_of_ble_eq_true rfl⟩ hW hS hl.1 (Nat.le_of_ble_eq_true rfl) dX1_endsMainEntry_20 (fun H locs hW hS => ?_)
    obtain ⟨r3, qr3, h⟩ := ob h
    refine k_X0_partOf F ha1 qr3 q_838 ⟨Nat.le_of_ble_eq_true rfl, Nat.le_of_ble_eq_true rfl, Nat.le_of_ble_eq_true rfl, Nat.le_of_ble_eq_true rfl⟩ hW hS hl.1 (Nat.le_of_ble_eq_true rfl) dX1_endsMainEntry_23 (fun H locs hW hS => ?_)
    refine lv_iconst (v := (1 : Int32)) hx hb dX1_endsMainEntry_26 (by decide) ?_
    refine lv_icmp_ne (tgt := 34) hx hb dX1_endsMainEntry_27 (by decide) (fun cc => ?_) (fun cc => ?_)
    · replace h := (if_neg cc).symm.trans h
      refine lv_iconst (v := (0 : Int32)) hx hb dX1_endsMainEntry_34 (by decide) ?_
      cases h
      exact r_bool F hr (Or.inl rfl) hW hS dX1_endsMainEntry_35
    · replace h := (if_pos cc).symm.trans h
      refine lv_iconst (v := (1 : Int32)) hx hb dX1_endsMainEntry_30 (by decide) ?_
      refine lv_goto (tgt := 35) hx hb dX1_endsMainEntry_31 (by decide) ?_
      cases h
      exact r_bool F hr (Or.inr rfl) hW hS dX1_endsMainEntry_35
set_option maxHeartbeats 4000000 in
set_option maxRecDepth 100000 in
theorem c_X1_endsMainEntry {l : Launch} {G : Gt} {b : Nat} {t : Nat} {a1 : Nat} {a2 : Int32} {μ : Mm} {out : Int32} (ht : okLa t) (ha1 : okBk a1) (h : sh_X1_endsMainEntry t a1 a2 μ = some out) : Met l yX1_endsMainEntry (wU (Cond.code yX1_endsMainEntry cX1_endsMainEntry 3 (some .boolean))) ({ frames := 3, cells := 0, slots := 0, locals := 64 } : Room) (PcW G b μ [.ref (b + t), .ref (b + a1), .int a2]) (QW G b μ (some (.int out))) 0 0 (fb b) :=
  met_of [.ref (b + t), .ref (b + a1), .int a2] (by decide) (Nat.le_of_ble_eq_true rfl) (fun F hr hW hl => wk_X1_endsMainEntry F hr ht ha1 h hW va_S.rf hl)
set_option maxHeartbeats 4000000 in
set_option maxRecDepth 100000 in
theorem k_X1_endsMainEntry {own : String} {nL : Nat} (F : FX G b own cc nL p s m args meth c) {t : Nat} {a1 : Nat} {a2 : Int32} {μ : Mm} {out : Int32} (ht : okLa t) (ha1 : okBk a1) (h : sh_X1_endsMainEntry t a1 a2 μ = some out) {index : Nat} (hl : Cond.methodLink own index yX1_endsMainEntry ∈ TBG) (hR : 3 + 1 ≤ R.frames ∧ 8 + (3 + 11) + 64 ≤ R.locals ∧ cells ≤ R.cells ∧ slots ≤ R.slots) (hW : WH G b μ H) (hS : va_S (fb b) s.heap H locs) (hsz : ls.size = nL) (hrest : (rest.map fun v => v.category).sum ≤ 8) (hdg : decode cc pc = .ok (.invokevirtual index, 3))
    (kk : ∀ (H1 : Heap) (locs1 : List Loc), WH G b μ H1 → va_S (fb b) s.heap H1 locs1 → W p l e R s m args below meth c H1 locs1 cells slots Q (F0 m (pc + 3) ls (.int out :: rest))) : W p l e R s m args below meth c H locs cells slots Q (F0 m pc ls (.int a2 :: .ref (b + a1) :: .ref (b + t) :: rest)) :=
  f_callV (As := [.ref (b + a1), .int a2]) (ci := 1) (c_X1_endsMainEntry ht ha1 h) ⟨rfl, rfl⟩ rfl (ky_lt ht.1 (by decide)) (wF_1 ht.1) q_828 qp_24 q_9 q_829 rfl ⟨by decide +kernel, by decide +kernel, (show (parseMethodDescriptor yX1_endsMainEntry.desc).map (fun d => d.parameters.length) = some 2 by decide +kernel)⟩ F hl hR hW hS hsz hrest rfl hdg kk
set_option maxHeartbeats 4000000 in
set_option maxRecDepth 100000 in
theorem wk_X1_unitsOf_96 {n : Nat} {a0 : Int32} {a1 : Int32} {μ : Mm} {k7 : (Int32 → Int32 → Int32 → Option Int32)} {x2 : Int32} {x3 : Int32} {x4 : Int32} {x6 : Int32} {out : Int32} (F : FX G b RX1 cX1_unitsOf 9 p s m args meth c) (hr : meth.sig.returnType = some .int) (hk7 : ∀ (x2 : Int32) (x3 : Int32) (x4 : Int32) (H : Heap) (locs : List Loc) (ls : Array Slot), k7 x2 x3 x4 = some out → WH G b μ H → va_S (fb b) s.heap H locs → lv_has ls 9 [(1, .int a1), (2, .int x2), (3, .int x3), (4, .int x4)] → W p l e ({ frames := 1, cells := 0, slots := 0, locals := 20 } : Room) s m args below meth c H locs 0 0 (MQ below (QW G b μ (some (.int out))) args s 0 0 (fb b)) (F0 m 7 ls [])) (h : sh_X1_unitsOf_96 n a0 a1 μ k7 x2 x3 x4 x6 = some out) (hW : WH G b μ H) (hS : va_S (fb b) s.heap H locs) (hl : lv_has ls 9 [(1, .int a1), (2, .int x2), (3, .int x3), (4, .int x4), (6, .int x6)]) : W p l e ({ frames := 1, cells := 0, slots := 0, locals := 20 } : Room) s m args below meth c H locs 0 0 (MQ below (QW G b μ (some (.int out))) args s 0 0 (fb b)) (F0 m 96 ls []) := by
  have hx := F.1
  have hb := F.2.1
  unfold sh_X1_unitsOf_96 at h
  refine lv_iload_n hx hb dX1_unitsOf_96 rfl (lv_at hl 2 rfl) ?_
  refine lv_iload hx hb dX1_unitsOf_97 (lv_at hl 4 rfl) ?_
  refine lv_iadd hx hb dX1_unitsOf_99 ?_
  obtain ⟨v3, ev3⟩ : ∃ y, y = (x3 + x6) := ⟨_, rfl⟩
  have h := nm_at ev3 h
  rw [← ev3]
  refine lv_istore_n (lv' := [(3, .int v3), (1, .int a1), (2, .int x2), (4, .int x4), (6, .int x6)]) hx hb dX1_unitsOf_100 rfl hl (by decide) rfl (fun ls hl => ?_)
  refine lv_iload hx hb dX1_unitsOf_101 (lv_at hl 3 rfl) ?_
  refine lv_bipush (v := (10 : Int32)) hx hb dX1_unitsOf_103 (by decide) ?_
  obtain ⟨v4, qv4, h⟩ := ob h
  obtain ⟨zv4, qv4⟩ := dv_some qv4
  refine lv_idiv hx hb dX1_unitsOf_105 zv4 ?_
  rw [qv4]
  refine lv_istore (lv' := [(4, .int v4), (3, .int v3), (1, .int a1), (2, .int x2), (6, .int x6)]) hx hb dX1_unitsOf_106 hl (by decide) rfl (fun ls hl => ?_)
  refine lv_goto (tgt := 7) hx hb dX1_unitsOf_108 (by decide) ?_
  exact hk7 _ _ _ _ _ _ h hW hS (lv_sub hl [2, 3, 1, 0] rfl)
set_option maxHeartbeats 4000000 in
set_option maxRecDepth 100000 in
theorem wk_X1_unitsOf_85 {n : Nat} {a0 : Int32} {a1 : Int32} {μ : Mm} {k7 : (Int32 → Int32 → Int32 → Option Int32)} {x2 : Int32} {x3 : Int32} {x4 : Int32} {x6 : Int32} {out : Int32} (F : FX G b RX1 cX1_unitsOf 9 p s m args meth c) (hr : meth.sig.returnType = some .int) (hk7 : ∀ (x2 : Int32) (x3 : Int32) (x4 : Int32) (H : Heap) (locs : List Loc) (ls : Array Slot), k7 x2 x3 x4 = some out → WH G b μ H → va_S (fb b) s.heap H locs → lv_has ls 9 [(1, .int a1), (2, .int x2), (3, .int x3), (4, .int x4)] → W p l e ({ frames := 1, cells := 0, slots := 0, locals := 20 } : Room) s m args below meth c H locs 0 0 (MQ below (QW G b μ (some (.int out))) args s 0 0 (fb b)) (F0 m 7 ls [])) (h : sh_X1_unitsOf_85 n a0 a1 μ k7 x2 x3 x4 x6 = some out) (hW : WH G b μ H) (hS : va_S (fb b) s.heap H locs) (hl : lv_has ls 9 [(1, .int a1), (2, .int x2), (3, .int x3), (4, .int x4), (6, .int x6)]) : W p l e ({ frames := 1, cells := 0, slots := 0, locals := 20 } : Room) s m args below meth c H locs 0 0 (MQ below (QW G b μ (some (.int out))) args s 0 0 (fb b)) (F0 m 85 ls []) := by
  have hx := F.1
  have hb := F.2.1
  unfold sh_X1_unitsOf_85 at h
  refine lv_iload_n hx hb dX1_unitsOf_85 rfl (lv_at hl 1 rfl) ?_
  refine lv_iconst (v := (1 : Int32)) hx hb dX1_unitsOf_86 (by decide) ?_
  refine lv_iload hx hb dX1_unitsOf_87 (lv_at hl 4 rfl) ?_
  refine lv_ishl hx hb dX1_unitsOf_89 ?_
  refine lv_iconst (v := (1 : Int32)) hx hb dX1_unitsOf_90 (by decide) ?_
  refine lv_isub hx hb dX1_unitsOf_91 ?_
  refine lv_iload_n hx hb dX1_unitsOf_92 rfl (lv_at hl 2 rfl) ?_
  refine lv_ishl hx hb dX1_unitsOf_93 ?_
  refine lv_ior hx hb dX1_unitsOf_94 ?_
  obtain ⟨v5, ev5⟩ : ∃ y, y = (x2 ||| ((((1 : Int32) <<< (x6 &&& 31)) - (1 : Int32)) <<< (x3 &&& 31))) := ⟨_, rfl⟩
  have h := nm_at ev5 h
  rw [← ev5]
  refine lv_istore_n (lv' := [(2, .int v5), (1, .int a1), (3, .int x3), (4, .int x4), (6, .int x6)]) hx hb dX1_unitsOf_95 rfl hl (by decide) rfl (fun ls hl => ?_)
  exact wk_X1_unitsOf_96 F hr hk7 h hW hS (lv_sub hl [1, 0, 2, 3, 4] rfl)
set_option maxHeartbeats 4000000 in
set_option maxRecDepth 100000 in
theorem wk_X1_unitsOf_66 {n : Nat} {a0 : Int32} {a1 : Int32} {μ : Mm} {k7 : (Int32 → Int32 → Int32 → Option Int32)} {x2 : Int32} {x3 : Int32} {x4 : Int32} {x6 : Int32} {x7 : Int32} {s0 : Int32} {out : Int32} (F : FX G b RX1 cX1_unitsOf 9 p s m args meth c) (hr : meth.sig.returnType = some .int) (hk7 : ∀ (x2 : Int32) (x3 : Int32) (x4 : Int32) (H : Heap) (locs : List Loc) (ls : Array Slot), k7 x2 x3 x4 = some out → WH G b μ H → va_S (fb b) s.heap H locs → lv_has ls 9 [(1, .int a1), (2, .int x2), (3, .int x3), (4, .int x4)] → W p l e ({ frames := 1, cells := 0, slots := 0, locals := 20 } : Room) s m args below meth c H locs 0 0 (MQ below (QW G b μ (some (.int out))) args s 0 0 (fb b)) (F0 m 7 ls [])) (h : sh_X1_unitsOf_66 n a0 a1 μ k7 x2 x3 x4 x6 x7 s0 = some out) (hW : WH G b μ H) (hS : va_S (fb b) s.heap H locs) (hl : lv_has ls 9 [(1, .int a1), (2, .int x2), (3, .int x3), (4, .int x4), (6, .int x6), (7, .int x7)]) : W p l e ({ frames := 1, cells := 0, slots := 0, locals := 20 } : Room) s m args below meth c H locs 0 0 (MQ below (QW G b μ (some (.int out))) args s 0 0 (fb b)) (F0 m 66 ls [.int s0]) := by
  have hx := F.1
  have hb := F.2.1
  unfold sh_X1_unitsOf_66 at h
  refine lv_istore (lv' := [(8, .int s0), (1, .int a1), (2, .int x2), (3, .int x3), (4, .int x4), (6, .int x6), (7, .int x7)]) hx hb dX1_unitsOf_66 hl (by decide) rfl (fun ls hl => ?_)
  refine lv_iload_n hx hb dX1_unitsOf_68 rfl (lv_at hl 1 rfl) ?_
  refine lv_if_eq (tgt := 80) hx hb dX1_unitsOf_69 (by decide) (fun cc => ?_) (fun cc => ?_)
  · replace h := (if_pos cc).symm.trans h
    refine lv_iload hx hb dX1_unitsOf_80 (lv_at hl 0 rfl) ?_
    refine lv_if_eq (tgt := 96) hx hb dX1_unitsOf_82 (by decide) (fun cc => ?_) (fun cc => ?_)
    · replace h := (if_pos cc).symm.trans h
      exact wk_X1_unitsOf_96 F hr hk7 h hW hS (lv_sub hl [1, 2, 3, 4, 5] rfl)
    · replace h := (if_neg cc).symm.trans h
      exact wk_X1_unitsOf_85 F hr hk7 h hW hS (lv_sub hl [1, 2, 3, 4, 5] rfl)
  · replace h := (if_neg cc).symm.trans h
    refine lv_iload hx hb dX1_unitsOf_72 (lv_at hl 6 rfl) ?_
    refine lv_if_eq (tgt := 96) hx hb dX1_unitsOf_74 (by decide) (fun cc => ?_) (fun cc => ?_)
    · replace h := (if_pos cc).symm.trans h
      exact wk_X1_unitsOf_96 F hr hk7 h hW hS (lv_sub hl [1, 2, 3, 4, 5] rfl)
    · replace h := (if_neg cc).symm.trans h
      refine lv_goto (tgt := 85) hx hb dX1_unitsOf_77 (by decide) ?_
      exact wk_X1_unitsOf_85 F hr hk7 h hW hS (lv_sub hl [1, 2, 3, 4, 5] rfl)
set_option maxHeartbeats 4000000 in
set_option maxRecDepth 100000 in
theorem wk_X1_unitsOf_65 {n : Nat} {a0 : Int32} {a1 : Int32} {μ : Mm} {k7 : (Int32 → Int32 → Int32 → Option Int32)} {x2 : Int32} {x3 : Int32} {x4 : Int32} {x6 : Int32} {x7 : Int32} {out : Int32} (F : FX G b RX1 cX1_unitsOf 9 p s m args meth c) (hr : meth.sig.returnType = some .int) (hk7 : ∀ (x2 : Int32) (x3 : Int32) (x4 : Int32) (H : Heap) (locs : List Loc) (ls : Array Slot), k7 x2 x3 x4 = some out → WH G b μ H → va_S (fb b) s.heap H locs → lv_has ls 9 [(1, .int a1), (2, .int x2), (3, .int x3), (4, .int x4)] → W p l e ({ frames := 1, cells := 0, slots := 0, locals := 20 } : Room) s m args below meth c H locs 0 0 (MQ below (QW G b μ (some (.int out))) args s 0 0 (fb b)) (F0 m 7 ls [])) (h : sh_X1_unitsOf_65 n a0 a1 μ k7 x2 x3 x4 x6 x7 = some out) (hW : WH G b μ H) (hS : va_S (fb b) s.heap H locs) (hl : lv_has ls 9 [(1, .int a1), (2, .int x2), (3, .int x3), (4, .int x4), (6, .int x6), (7, .int x7)]) : W p l e ({ frames := 1, cells := 0, slots := 0, locals := 20 } : Room) s m args below meth c H locs 0 0 (MQ below (QW G b μ (some (.int out))) args s 0 0 (fb b)) (F0 m 65 ls []) := by
  have hx := F.1
  have hb := F.2.1
  unfold sh_X1_unitsOf_65 at h
  refine lv_iconst (v := (0 : Int32)) hx hb dX1_unitsOf_65 (by decide) ?_
  exact wk_X1_unitsOf_66 F hr hk7 h hW hS (lv_sub hl [0, 1, 2, 3, 4, 5] rfl)
set_option maxHeartbeats 4000000 in
set_option maxRecDepth 100000 in
theorem wk_X1_unitsOf_48 {n : Nat} {a0 : Int32} {a1 : Int32} {μ : Mm} {k7 : (Int32 → Int32 → Int32 → Option Int32)} {x2 : Int32} {x3 : Int32} {x4 : Int32} {x5 : Int32} {x6 : Int32} {s0 : Int32} {out : Int32} (F : FX G b RX1 cX1_unitsOf 9 p s m args meth c) (hr : meth.sig.returnType = some .int) (hk7 : ∀ (x2 : Int32) (x3 : Int32) (x4 : Int32) (H : Heap) (locs : List Loc) (ls : Array Slot), k7 x2 x3 x4 = some out → WH G b μ H → va_S (fb b) s.heap H locs → lv_has ls 9 [(1, .int a1), (2, .int x2), (3, .int x3), (4, .int x4)] → W p l e ({ frames := 1, cells := 0, slots := 0, locals := 20 } : Room) s m args below meth c H locs 0 0 (MQ below (QW G b μ (some (.int out))) args s 0 0 (fb b)) (F0 m 7 ls [])) (h : sh_X1_unitsOf_48 n a0 a1 μ k7 x2 x3 x4 x5 x6 s0 = some out) (hW : WH G b μ H) (hS : va_S (fb b) s.heap H locs) (hl : lv_has ls 9 [(1, .int a1), (2, .int x2), (3, .int x3), (4, .int x4), (5, .int x5), (6, .int x6)]) : W p l e ({ frames := 1, cells := 0, slots := 0, locals := 20 } : Room) s m args below meth c H locs 0 0 (MQ below (QW G b μ (some (.int out))) args s 0 0 (fb b)) (F0 m 48 ls [.int s0]) := by
  have hx := F.1
  have hb := F.2.1
  unfold sh_X1_unitsOf_48 at h
  refine lv_istore (lv' := [(7, .int s0), (1, .int a1), (2, .int x2), (3, .int x3), (4, .int x4), (5, .int x5), (6, .int x6)]) hx hb dX1_unitsOf_48 hl (by decide) rfl (fun ls hl => ?_)
  refine lv_iload hx hb dX1_unitsOf_50 (lv_at hl 5 rfl) ?_
  refine lv_iconst (v := (3 : Int32)) hx hb dX1_unitsOf_52 (by decide) ?_
  refine lv_icmp_lt (tgt := 65) hx hb dX1_unitsOf_53 (by decide) (fun cc => ?_) (fun cc => ?_)
  · replace h := (if_pos cc).symm.trans h
    exact wk_X1_unitsOf_65 F hr hk7 h hW hS (lv_sub hl [1, 2, 3, 4, 6, 0] rfl)
  · replace h := (if_neg cc).symm.trans h
    refine lv_iload hx hb dX1_unitsOf_56 (lv_at hl 0 rfl) ?_
    refine lv_if_ne (tgt := 65) hx hb dX1_unitsOf_58 (by decide) (fun cc => ?_) (fun cc => ?_)
    · replace h := (if_neg cc).symm.trans h
      exact wk_X1_unitsOf_65 F hr hk7 h hW hS (lv_sub hl [1, 2, 3, 4, 6, 0] rfl)
    · replace h := (if_pos cc).symm.trans h
      refine lv_iconst (v := (1 : Int32)) hx hb dX1_unitsOf_61 (by decide) ?_
      refine lv_goto (tgt := 66) hx hb dX1_unitsOf_62 (by decide) ?_
      exact wk_X1_unitsOf_66 F hr hk7 h hW hS (lv_sub hl [1, 2, 3, 4, 6, 0] rfl)
set_option maxHeartbeats 4000000 in
set_option maxRecDepth 100000 in
theorem wk_X1_unitsOf_43 {n : Nat} {a0 : Int32} {a1 : Int32} {μ : Mm} {k7 : (Int32 → Int32 → Int32 → Option Int32)} {x2 : Int32} {x3 : Int32} {x4 : Int32} {x5 : Int32} {x6 : Int32} {out : Int32} (F : FX G b RX1 cX1_unitsOf 9 p s m args meth c) (hr : meth.sig.returnType = some .int) (hk7 : ∀ (x2 : Int32) (x3 : Int32) (x4 : Int32) (H : Heap) (locs : List Loc) (ls : Array Slot), k7 x2 x3 x4 = some out → WH G b μ H → va_S (fb b) s.heap H locs → lv_has ls 9 [(1, .int a1), (2, .int x2), (3, .int x3), (4, .int x4)] → W p l e ({ frames := 1, cells := 0, slots := 0, locals := 20 } : Room) s m args below meth c H locs 0 0 (MQ below (QW G b μ (some (.int out))) args s 0 0 (fb b)) (F0 m 7 ls [])) (h : sh_X1_unitsOf_43 n a0 a1 μ k7 x2 x3 x4 x5 x6 = some out) (hW : WH G b μ H) (hS : va_S (fb b) s.heap H locs) (hl : lv_has ls 9 [(1, .int a1), (2, .int x2), (3, .int x3), (4, .int x4), (5, .int x5), (6, .int x6)]) : W p l e ({ frames := 1, cells := 0, slots := 0, locals := 20 } : Room) s m args below meth c H locs 0 0 (MQ below (QW G b μ (some (.int out))) args s 0 0 (fb b)) (F0 m 43 ls []) := by
  have hx := F.1
  have hb := F.2.1
  unfold sh_X1_unitsOf_43 at h
  refine lv_iconst (v := (1 : Int32)) hx hb dX1_unitsOf_43 (by decide) ?_
  refine lv_goto (tgt := 48) hx hb dX1_unitsOf_44 (by decide) ?_
  exact wk_X1_unitsOf_48 F hr hk7 h hW hS (lv_sub hl [0, 1, 2, 3, 4, 5] rfl)
set_option maxHeartbeats 4000000 in
set_option maxRecDepth 100000 in
theorem wk_X1_unitsOf_7 {n : Nat} {a0 : Int32} {a1 : Int32} {μ : Mm} {out : Int32} (F : FX G b RX1 cX1_unitsOf 9 p s m args meth c) (hr : meth.sig.returnType = some .int) : ∀ (f : Nat) (x2 : Int32) (x3 : Int32) (x4 : Int32) (H : Heap) (locs : List Loc) (ls : Array Slot), sh_X1_unitsOf_7 n a0 a1 μ f x2 x3 x4 = some out → WH G b μ H → va_S (fb b) s.heap H locs → lv_has ls 9 [(1, .int a1), (2, .int x2), (3, .int x3), (4, .int x4)] → W p l e ({ frames := 1, cells := 0, slots := 0, locals := 20 } : Room) s m args below meth c H locs 0 0 (MQ below (QW G b μ (some (.int out))) args s 0 0 (fb b)) (F0 m 7 ls []) := by
  have hx := F.1
  have hb := F.2.1
  intro f
  induction f with
  | zero =>
    intro _ _ _ _ _ _ h
    rw [sh_X1_unitsOf_7] at h
    cases h
  | succ f ih =>
    intro x2 x3 x4  H locs ls h hW hS hl
    rw [sh_X1_unitsOf_7] at h
    have hk7 := ih
    refine lv_iload hx hb dX1_unitsOf_7 (lv_at hl 3 rfl) ?_
    refine lv_if_le (tgt := 111) hx hb dX1_unitsOf_9 (by decide) (fun cc => ?_) (fun cc => ?_)
    · replace h := (if_pos cc).symm.trans h
      refine lv_iload_n hx hb dX1_unitsOf_111 rfl (lv_at hl 1 rfl) ?_
      cases h
      exact r_int F hr hW hS dX1_unitsOf_112
    · replace h := (if_neg cc).symm.trans h
      refine lv_iload hx hb dX1_unitsOf_12 (lv_at hl 3 rfl) ?_
      refine lv_bipush (v := (10 : Int32)) hx hb dX1_unitsOf_14 (by decide) ?_
      obtain ⟨v1, qv1, h⟩ := ob h
      obtain ⟨zv1, qv1⟩ := rm_some qv1
      refine lv_irem hx hb dX1_unitsOf_16 zv1 ?_
      rw [qv1]
      refine lv_istore (lv' := [(5, .int v1), (1, .int a1), (2, .int x2), (3, .int x3), (4, .int x4)]) hx hb dX1_unitsOf_17 hl (by decide) rfl (fun ls hl => ?_)
      refine lv_bipush (v := (48 : Int32)) hx hb dX1_unitsOf_19 (by decide) ?_
      refine lv_iload hx hb dX1_unitsOf_21 (lv_at hl 0 rfl) ?_
      refine lv_iadd hx hb dX1_unitsOf_23 ?_
      obtain ⟨r2, qr2, h⟩ := ob h
      refine k_X11_signWidth_n F qr2 (by decide +kernel) ⟨Nat.le_of_ble_eq_true rfl, Nat.le_of_ble_eq_true rfl, Nat.le_of_ble_eq_true rfl, Nat.le_of_ble_eq_true rfl⟩ hW hS hl.1 (Nat.le_of_ble_eq_true rfl) dX1_unitsOf_24 (fun H locs hW hS => ?_)
      refine lv_istore (lv' := [(6, .int r2), (5, .int v1), (1, .int a1), (2, .int x2), (3, .int x3), (4, .int x4)]) hx hb dX1_unitsOf_27 hl (by decide) rfl (fun ls hl => ?_)
      refine lv_iload hx hb dX1_unitsOf_29 (lv_at hl 1 rfl) ?_
      refine lv_bipush (v := (6 : Int32)) hx hb dX1_unitsOf_31 (by decide) ?_
      refine lv_icmp_eq (tgt := 43) hx hb dX1_unitsOf_33 (by decide) (fun cc => ?_) (fun cc => ?_)
      · replace h := (if_pos cc).symm.trans h
        exact wk_X1_unitsOf_43 F hr hk7 h hW hS (lv_sub hl [2, 3, 4, 5, 1, 0] rfl)
      · replace h := (if_neg cc).symm.trans h
        refine lv_iload hx hb dX1_unitsOf_36 (lv_at hl 1 rfl) ?_
        refine lv_bipush (v := (8 : Int32)) hx hb dX1_unitsOf_38 (by decide) ?_
        refine lv_icmp_ne (tgt := 47) hx hb dX1_unitsOf_40 (by decide) (fun cc => ?_) (fun cc => ?_)
        · replace h := (if_neg cc).symm.trans h
          refine lv_iconst (v := (0 : Int32)) hx hb dX1_unitsOf_47 (by decide) ?_
          exact wk_X1_unitsOf_48 F hr hk7 h hW hS (lv_sub hl [2, 3, 4, 5, 1, 0] rfl)
        · replace h := (if_pos cc).symm.trans h
          exact wk_X1_unitsOf_43 F hr hk7 h hW hS (lv_sub hl [2, 3, 4, 5, 1, 0] rfl)
set_option maxHeartbeats 4000000 in
set_option maxRecDepth 100000 in
theorem wk_X1_unitsOf {n : Nat} {a0 : Int32} {a1 : Int32} {μ : Mm} {out : Int32} (F : FX G b RX1 cX1_unitsOf 9 p s m args meth c) (hr : meth.sig.returnType = some .int) (h : sh_X1_unitsOf n a0 a1 μ = some out) (hW : WH G b μ H) (hS : va_S (fb b) s.heap H locs) (hl : lv_has ls 9 [(0, .int a0), (1, .int a1)]) : W p l e ({ frames := 1, cells := 0, slots := 0, locals := 20 } : Room) s m args below meth c H locs 0 0 (MQ below (QW G b μ (some (.int out))) args s 0 0 (fb b)) (F0 m 0 ls []) := by
  have hx := F.1
  have hb := F.2.1
  unfold sh_X1_unitsOf at h
  refine lv_iconst (v := (0 : Int32)) hx hb dX1_unitsOf_0 (by decide) ?_
  refine lv_istore_n (lv' := [(2, .int (0 : Int32)), (0, .int a0), (1, .int a1)]) hx hb dX1_unitsOf_1 rfl hl (by decide) rfl (fun ls hl => ?_)
  refine lv_iconst (v := (0 : Int32)) hx hb dX1_unitsOf_2 (by decide) ?_
  refine lv_istore_n (lv' := [(3, .int (0 : Int32)), (2, .int (0 : Int32)), (0, .int a0), (1, .int a1)]) hx hb dX1_unitsOf_3 rfl hl (by decide) rfl (fun ls hl => ?_)
  refine lv_iload_n hx hb dX1_unitsOf_4 rfl (lv_at hl 2 rfl) ?_
  refine lv_istore (lv' := [(4, .int a0), (3, .int (0 : Int32)), (2, .int (0 : Int32)), (0, .int a0), (1, .int a1)]) hx hb dX1_unitsOf_5 hl (by decide) rfl (fun ls hl => ?_)
  exact wk_X1_unitsOf_7 F hr n _ _ _ _ _ _ h hW hS (lv_sub hl [4, 2, 1, 0] rfl)
set_option maxHeartbeats 4000000 in
set_option maxRecDepth 100000 in
theorem c_X1_unitsOf {l : Launch} {G : Gt} {b : Nat} {n : Nat} {a0 : Int32} {a1 : Int32} {μ : Mm} {out : Int32} (h : sh_X1_unitsOf n a0 a1 μ = some out) : Met l yX1_unitsOf (wU (Cond.code yX1_unitsOf cX1_unitsOf 9 (some .int))) ({ frames := 1, cells := 0, slots := 0, locals := 20 } : Room) (PcW G b μ [.int a0, .int a1]) (QW G b μ (some (.int out))) 0 0 (fb b) :=
  met_of [.int a0, .int a1] (by decide) (Nat.le_of_ble_eq_true rfl) (fun F hr hW hl => wk_X1_unitsOf F hr h hW va_S.rf hl)
set_option maxHeartbeats 4000000 in
set_option maxRecDepth 100000 in
theorem k_X1_unitsOf {nL : Nat} (F : FX G b RX1 cc nL p s m args meth c) {n : Nat} {a0 : Int32} {a1 : Int32} {μ : Mm} {out : Int32} (h : sh_X1_unitsOf n a0 a1 μ = some out) {index : Nat} (hl : Cond.methodLink RX1 index yX1_unitsOf ∈ TBG) (hR : 1 + 1 ≤ R.frames ∧ 8 + (9 + 11) + 20 ≤ R.locals ∧ cells ≤ R.cells ∧ slots ≤ R.slots) (hW : WH G b μ H) (hS : va_S (fb b) s.heap H locs) (hsz : ls.size = nL) (hrest : (rest.map fun v => v.category).sum ≤ 8) (hdg : decode cc pc = .ok (.invokestatic index, 3))
    (kk : ∀ (H1 : Heap) (locs1 : List Loc), WH G b μ H1 → va_S (fb b) s.heap H1 locs1 → W p l e R s m args below meth c H1 locs1 cells slots Q (F0 m (pc + 3) ls (.int out :: rest))) : W p l e R s m args below meth c H locs cells slots Q (F0 m pc ls (.int a1 :: .int a0 :: rest)) :=
  f_callS (As := [.int a0, .int a1]) (c_X1_unitsOf h) ⟨rfl, rfl⟩ q_840 q_9 q_841 rfl ⟨by decide +kernel, by decide +kernel, (show (parseMethodDescriptor yX1_unitsOf.desc).map (fun d => d.parameters.length) = some 2 by decide +kernel)⟩ F hl hR hW hS hsz hrest rfl hdg kk
set_option maxHeartbeats 4000000 in
set_option maxRecDepth 100000 in
theorem k_X1_unitsOf_x {own : String} {nL : Nat} (F : FX G b own cc nL p s m args meth c) {n : Nat} {a0 : Int32} {a1 : Int32} {μ : Mm} {out : Int32} (h : sh_X1_unitsOf n a0 a1 μ = some out) {index : Nat} (hl : Cond.methodLink own index yX1_unitsOf ∈ TBG) (hR : 1 + 1 ≤ R.frames ∧ 8 + (9 + 11) + 20 ≤ R.locals ∧ cells ≤ R.cells ∧ slots ≤ R.slots) (hW : WH G b μ H) (hS : va_S (fb b) s.heap H locs) (hsz : ls.size = nL) (hrest : (rest.map fun v => v.category).sum ≤ 8) (hdg : decode cc pc = .ok (.invokestatic index, 3))
    (kk : ∀ (H1 : Heap) (locs1 : List Loc), WH G b μ H1 → va_S (fb b) s.heap H1 locs1 → W p l e R s m args below meth c H1 locs1 cells slots Q (F0 m (pc + 3) ls (.int out :: rest))) : W p l e R s m args below meth c H locs cells slots Q (F0 m pc ls (.int a1 :: .int a0 :: rest)) :=
  f_callSx (As := [.int a0, .int a1]) (c_X1_unitsOf h) ⟨rfl, rfl⟩ q_840 q_9 q_841 ⟨by decide +kernel, by decide +kernel, (show (parseMethodDescriptor yX1_unitsOf.desc).map (fun d => d.parameters.length) = some 2 by decide +kernel)⟩ F hl hR hW hS hsz hrest rfl hdg kk
set_option maxHeartbeats 4000000 in
set_option maxRecDepth 100000 in
theorem wk_X1_touchesNext {n : Nat} {t : Nat} {a1 : Nat} {a2 : Int32} {μ : Mm} {out : Int32} (F : FX G b RX1 cX1_touchesNext 7 p s m args meth c) (hr : meth.sig.returnType = some .boolean) (ht : okLa t) (ha1 : okBk a1) (h : sh_X1_touchesNext n t a1 a2 μ = some out) (hW : WH G b μ H) (hS : va_S (fb b) s.heap H locs) (hl : lv_has ls 7 [(0, .ref (b + t)), (1, .ref (b + a1)), (2, .int a2)]) : W p l e ({ frames := 4, cells := 0, slots := 0, locals := 86 } : Room) s m args below meth c H locs 0 0 (MQ below (QW G b μ (some (.int out))) args s 0 0 (fb b)) (F0 m 0 ls []) := by
  have hx := F.1
  have hb := F.2.1
  unfold sh_X1_touchesNext at h
  refine lv_iload_n hx hb dX1_touchesNext_0 rfl (lv_at hl 2 rfl) ?_
  refine lv_iconst (v := (1 : Int32)) hx hb dX1_touchesNext_1 (by decide) ?_
  refine lv_iadd hx hb dX1_touchesNext_2 ?_
  obtain ⟨v1, ev1⟩ : ∃ y, y = (a2 + (1 : Int32)) := ⟨_, rfl⟩
  have h := nm_at ev1 h
  rw [← ev1]
  refine lv_istore_n (lv' := [(3, .int v1), (0, .ref (b + t)), (1, .ref (b + a1)), (2, .int a2)]) hx hb dX1_touchesNext_3 rfl hl (by decide) rfl (fun ls hl => ?_)
  refine lv_aload_n hx hb dX1_touchesNext_4 rfl (lv_at hl 2 rfl) ?_
  refine fl_get0 (v := .ref (b + (a1 + 1))) (ha1).1 F hW 0 (by decide) q_151 rfl rfl dX1_touchesNext_5 ?_
  refine lv_iconst (v := (1 : Int32)) hx hb dX1_touchesNext_8 (by decide) ?_
  obtain ⟨r2, qr2, h⟩ := ob h
  refine k_X5_at F (ha1).2.1 qr2 q_529 ⟨Nat.le_of_ble_eq_true rfl, Nat.le_of_ble_eq_true rfl, Nat.le_of_ble_eq_true rfl, Nat.le_of_ble_eq_true rfl⟩ hW hS hl.1 (Nat.le_of_ble_eq_true rfl) dX1_touchesNext_9 (fun H locs hW hS => ?_)
  refine lv_istore (lv' := [(4, .int r2), (3, .int v1), (0, .ref (b + t)), (1, .ref (b + a1)), (2, .int a2)]) hx hb dX1_touchesNext_12 hl (by decide) rfl (fun ls hl => ?_)
  refine lv_iload_n hx hb dX1_touchesNext_14 rfl (lv_at hl 1 rfl) ?_
  refine lv_aload_n hx hb dX1_touchesNext_15 rfl (lv_at hl 2 rfl) ?_
  refine fl_get1 (v := .ref (b + (t + 23))) (ht).1 F hW 2 (by decide) q_364 rfl rfl dX1_touchesNext_16 ?_
  refine fl_get7 (v := .int (μ.1 (t + 23) 2)) ((ht).2.2.2).1 F hW 2 (by decide) q_311 rfl rfl dX1_touchesNext_19 ?_
  refine lv_icmp_ge (tgt := 40) hx hb dX1_touchesNext_22 (by decide) (fun cc => ?_) (fun cc => ?_)
  · replace h := (if_pos cc).symm.trans h
    refine lv_iconst (v := (0 : Int32)) hx hb dX1_touchesNext_40 (by decide) ?_
    cases h
    exact r_bool F hr (Or.inl rfl) hW hS dX1_touchesNext_41
  · replace h := (if_neg cc).symm.trans h
    refine lv_iload_n hx hb dX1_touchesNext_25 rfl (lv_at hl 4 rfl) ?_
    refine lv_iload hx hb dX1_touchesNext_26 (lv_at hl 0 rfl) ?_
    obtain ⟨r3, qr3, h⟩ := ob h
    refine k_X11_quotient_n F qr3 (by decide +kernel) ⟨Nat.le_of_ble_eq_true rfl, Nat.le_of_ble_eq_true rfl, Nat.le_of_ble_eq_true rfl, Nat.le_of_ble_eq_true rfl⟩ hW hS hl.1 (Nat.le_of_ble_eq_true rfl) dX1_touchesNext_28 (fun H locs hW hS => ?_)
    refine lv_iload_n hx hb dX1_touchesNext_31 rfl (lv_at hl 1 rfl) ?_
    refine lv_iload hx hb dX1_touchesNext_32 (lv_at hl 0 rfl) ?_
    obtain ⟨r4, qr4, h⟩ := ob h
    refine k_X11_quotient_n F qr4 (by decide +kernel) ⟨Nat.le_of_ble_eq_true rfl, Nat.le_of_ble_eq_true rfl, Nat.le_of_ble_eq_true rfl, Nat.le_of_ble_eq_true rfl⟩ hW hS hl.1 (Nat.le_of_ble_eq_true rfl) dX1_touchesNext_34 (fun H locs hW hS => ?_)
    refine lv_icmp_eq (tgt := 42) hx hb dX1_touchesNext_37 (by decide) (fun cc => ?_) (fun cc => ?_)
    · replace h := (if_pos cc).symm.trans h
      refine lv_aload_n hx hb dX1_touchesNext_42 rfl (lv_at hl 2 rfl) ?_
      refine lv_aload_n hx hb dX1_touchesNext_43 rfl (lv_at hl 3 rfl) ?_
      refine lv_iload_n hx hb dX1_touchesNext_44 rfl (lv_at hl 4 rfl) ?_
      obtain ⟨r5, qr5, h⟩ := ob h
      refine k_X1_endsMainEntry F ht ha1 qr5 q_826 ⟨Nat.le_of_ble_eq_true rfl, Nat.le_of_ble_eq_true rfl, Nat.le_of_ble_eq_true rfl, Nat.le_of_ble_eq_true rfl⟩ hW hS hl.1 (Nat.le_of_ble_eq_true rfl) dX1_touchesNext_45 (fun H locs hW hS => ?_)
      refine lv_if_eq (tgt := 60) hx hb dX1_touchesNext_48 (by decide) (fun cc => ?_) (fun cc => ?_)
      · replace h := (if_pos cc).symm.trans h
        refine lv_iconst (v := (0 : Int32)) hx hb dX1_touchesNext_60 (by decide) ?_
        cases h
        exact r_bool F hr (Or.inl rfl) hW hS dX1_touchesNext_61
      · replace h := (if_neg cc).symm.trans h
        refine lv_aload_n hx hb dX1_touchesNext_51 rfl (lv_at hl 2 rfl) ?_
        refine lv_aload_n hx hb dX1_touchesNext_52 rfl (lv_at hl 3 rfl) ?_
        refine lv_iload_n hx hb dX1_touchesNext_53 rfl (lv_at hl 1 rfl) ?_
        obtain ⟨r6, qr6, h⟩ := ob h
        refine k_X1_endsMainEntry F ht ha1 qr6 q_826 ⟨Nat.le_of_ble_eq_true rfl, Nat.le_of_ble_eq_true rfl, Nat.le_of_ble_eq_true rfl, Nat.le_of_ble_eq_true rfl⟩ hW hS hl.1 (Nat.le_of_ble_eq_true rfl) dX1_touchesNext_54 (fun H locs hW hS => ?_)
        refine lv_if_ne (tgt := 62) hx hb dX1_touchesNext_57 (by decide) (fun cc => ?_) (fun cc => ?_)
        · replace h := (if_neg cc).symm.trans h
          refine lv_aload_n hx hb dX1_touchesNext_62 rfl (lv_at hl 2 rfl) ?_
          refine fl_get1 (v := .ref (b + (t + 14))) (ht).1 F hW 1 (by decide) q_362 rfl rfl dX1_touchesNext_63 ?_
          refine fl_get3 (v := .ref (b + (t + 15))) ((ht).2.2.1).1 F hW 0 (by decide) q_272 rfl rfl dX1_touchesNext_66 ?_
          refine lv_aload_n hx hb dX1_touchesNext_69 rfl (lv_at hl 2 rfl) ?_
          refine fl_get1 (v := .ref (b + (t + 23))) (ht).1 F hW 2 (by decide) q_364 rfl rfl dX1_touchesNext_70 ?_
          refine fl_get7 (v := .ref (b + (t + 24))) ((ht).2.2.2).1 F hW 3 (by decide) q_314 rfl rfl dX1_touchesNext_73 ?_
          refine lv_iload_n hx hb dX1_touchesNext_76 rfl (lv_at hl 4 rfl) ?_
          obtain ⟨r7, qr7, h⟩ := ob h
          refine k_X5_at F ((ht).2.2.2).2.1 qr7 q_529 ⟨Nat.le_of_ble_eq_true rfl, Nat.le_of_ble_eq_true rfl, Nat.le_of_ble_eq_true rfl, Nat.le_of_ble_eq_true rfl⟩ hW hS hl.1 (Nat.le_of_ble_eq_true rfl) dX1_touchesNext_77 (fun H locs hW hS => ?_)
          obtain ⟨r8, qr8, h⟩ := ob h
          refine k_X5_at F ((ht).2.2.1).2.1 qr8 q_529 ⟨Nat.le_of_ble_eq_true rfl, Nat.le_of_ble_eq_true rfl, Nat.le_of_ble_eq_true rfl, Nat.le_of_ble_eq_true rfl⟩ hW hS hl.1 (Nat.le_of_ble_eq_true rfl) dX1_touchesNext_80 (fun H locs hW hS => ?_)
          refine lv_istore (lv' := [(5, .int r8), (4, .int r2), (3, .int v1), (0, .ref (b + t)), (1, .ref (b + a1)), (2, .int a2)]) hx hb dX1_touchesNext_83 hl (by decide) rfl (fun ls hl => ?_)
          refine lv_aload_n hx hb dX1_touchesNext_85 rfl (lv_at hl 3 rfl) ?_
          refine fl_get1 (v := .ref (b + (t + 14))) (ht).1 F hW 1 (by decide) q_362 rfl rfl dX1_touchesNext_86 ?_
          refine fl_get3 (v := .ref (b + (t + 15))) ((ht).2.2.1).1 F hW 0 (by decide) q_272 rfl rfl dX1_touchesNext_89 ?_
          refine lv_aload_n hx hb dX1_touchesNext_92 rfl (lv_at hl 3 rfl) ?_
          refine fl_get1 (v := .ref (b + (t + 23))) (ht).1 F hW 2 (by decide) q_364 rfl rfl dX1_touchesNext_93 ?_
          refine fl_get7 (v := .ref (b + (t + 24))) ((ht).2.2.2).1 F hW 3 (by decide) q_314 rfl rfl dX1_touchesNext_96 ?_
          refine lv_iload_n hx hb dX1_touchesNext_99 rfl (lv_at hl 2 rfl) ?_
          obtain ⟨r9, qr9, h⟩ := ob h
          refine k_X5_at F ((ht).2.2.2).2.1 qr9 q_529 ⟨Nat.le_of_ble_eq_true rfl, Nat.le_of_ble_eq_true rfl, Nat.le_of_ble_eq_true rfl, Nat.le_of_ble_eq_true rfl⟩ hW hS hl.1 (Nat.le_of_ble_eq_true rfl) dX1_touchesNext_100 (fun H locs hW hS => ?_)
          obtain ⟨r10, qr10, h⟩ := ob h
          refine k_X5_at F ((ht).2.2.1).2.1 qr10 q_529 ⟨Nat.le_of_ble_eq_true rfl, Nat.le_of_ble_eq_true rfl, Nat.le_of_ble_eq_true rfl, Nat.le_of_ble_eq_true rfl⟩ hW hS hl.1 (Nat.le_of_ble_eq_true rfl) dX1_touchesNext_103 (fun H locs hW hS => ?_)
          refine lv_istore (lv' := [(6, .int r10), (5, .int r8), (4, .int r2), (3, .int v1), (0, .ref (b + t)), (1, .ref (b + a1)), (2, .int a2)]) hx hb dX1_touchesNext_106 hl (by decide) rfl (fun ls hl => ?_)
          refine lv_iload hx hb dX1_touchesNext_108 (lv_at hl 1 rfl) ?_
          refine lv_iconst (v := (0 : Int32)) hx hb dX1_touchesNext_110 (by decide) ?_
          obtain ⟨r11, qr11, h⟩ := ob h
          refine k_X1_unitsOf F qr11 q_839 ⟨Nat.le_of_ble_eq_true rfl, Nat.le_of_ble_eq_true rfl, Nat.le_of_ble_eq_true rfl, Nat.le_of_ble_eq_true rfl⟩ hW hS hl.1 (Nat.le_of_ble_eq_true rfl) dX1_touchesNext_111 (fun H locs hW hS => ?_)
          refine lv_iload hx hb dX1_touchesNext_114 (lv_at hl 0 rfl) ?_
          refine lv_iconst (v := (1 : Int32)) hx hb dX1_touchesNext_116 (by decide) ?_
          obtain ⟨r12, qr12, h⟩ := ob h
          refine k_X1_unitsOf F qr12 q_839 ⟨Nat.le_of_ble_eq_true rfl, Nat.le_of_ble_eq_true rfl, Nat.le_of_ble_eq_true rfl, Nat.le_of_ble_eq_true rfl⟩ hW hS hl.1 (Nat.le_of_ble_eq_true rfl) dX1_touchesNext_117 (fun H locs hW hS => ?_)
          refine lv_iand hx hb dX1_touchesNext_120 ?_
          refine lv_if_eq (tgt := 128) hx hb dX1_touchesNext_121 (by decide) (fun cc => ?_) (fun cc => ?_)
          · replace h := (if_pos cc).symm.trans h
            refine lv_iconst (v := (0 : Int32)) hx hb dX1_touchesNext_128 (by decide) ?_
            cases h
            exact r_bool F hr (Or.inl rfl) hW hS dX1_touchesNext_129
          · replace h := (if_neg cc).symm.trans h
            refine lv_iconst (v := (1 : Int32)) hx hb dX1_touchesNext_124 (by decide) ?_
            refine lv_goto (tgt := 129) hx hb dX1_touchesNext_125 (by decide) ?_
            cases h
            exact r_bool F hr (Or.inr rfl) hW hS dX1_touchesNext_129
        · replace h := (if_pos cc).symm.trans h
          refine lv_iconst (v := (0 : Int32)) hx hb dX1_touchesNext_60 (by decide) ?_
          cases h
          exact r_bool F hr (Or.inl rfl) hW hS dX1_touchesNext_61
    · replace h := (if_neg cc).symm.trans h
      refine lv_iconst (v := (0 : Int32)) hx hb dX1_touchesNext_40 (by decide) ?_
      cases h
      exact r_bool F hr (Or.inl rfl) hW hS dX1_touchesNext_41
set_option maxHeartbeats 4000000 in
set_option maxRecDepth 100000 in
theorem c_X1_touchesNext {l : Launch} {G : Gt} {b : Nat} {n : Nat} {t : Nat} {a1 : Nat} {a2 : Int32} {μ : Mm} {out : Int32} (ht : okLa t) (ha1 : okBk a1) (h : sh_X1_touchesNext n t a1 a2 μ = some out) : Met l yX1_touchesNext (wU (Cond.code yX1_touchesNext cX1_touchesNext 7 (some .boolean))) ({ frames := 4, cells := 0, slots := 0, locals := 86 } : Room) (PcW G b μ [.ref (b + t), .ref (b + a1), .int a2]) (QW G b μ (some (.int out))) 0 0 (fb b) :=
  met_of [.ref (b + t), .ref (b + a1), .int a2] (by decide) (Nat.le_of_ble_eq_true rfl) (fun F hr hW hl => wk_X1_touchesNext F hr ht ha1 h hW va_S.rf hl)
set_option maxHeartbeats 4000000 in
set_option maxRecDepth 100000 in
theorem k_X1_touchesNext {own : String} {nL : Nat} (F : FX G b own cc nL p s m args meth c) {n : Nat} {t : Nat} {a1 : Nat} {a2 : Int32} {μ : Mm} {out : Int32} (ht : okLa t) (ha1 : okBk a1) (h : sh_X1_touchesNext n t a1 a2 μ = some out) {index : Nat} (hl : Cond.methodLink own index yX1_touchesNext ∈ TBG) (hR : 4 + 1 ≤ R.frames ∧ 8 + (7 + 11) + 86 ≤ R.locals ∧ cells ≤ R.cells ∧ slots ≤ R.slots) (hW : WH G b μ H) (hS : va_S (fb b) s.heap H locs) (hsz : ls.size = nL) (hrest : (rest.map fun v => v.category).sum ≤ 8) (hdg : decode cc pc = .ok (.invokevirtual index, 3))
    (kk : ∀ (H1 : Heap) (locs1 : List Loc), WH G b μ H1 → va_S (fb b) s.heap H1 locs1 → W p l e R s m args below meth c H1 locs1 cells slots Q (F0 m (pc + 3) ls (.int out :: rest))) : W p l e R s m args below meth c H locs cells slots Q (F0 m pc ls (.int a2 :: .ref (b + a1) :: .ref (b + t) :: rest)) :=
  f_callV (As := [.ref (b + a1), .int a2]) (ci := 1) (c_X1_touchesNext ht ha1 h) ⟨rfl, rfl⟩ rfl (ky_lt ht.1 (by decide)) (wF_1 ht.1) q_822 q_823 q_9 q_824 rfl ⟨by decide +kernel, by decide +kernel, (show (parseMethodDescriptor yX1_touchesNext.desc).map (fun d => d.parameters.length) = some 2 by decide +kernel)⟩ F hl hR hW hS hsz hrest rfl hdg kk
set_option maxHeartbeats 4000000 in
set_option maxRecDepth 100000 in
theorem wk_X1_typeLabel_28 {n : Nat} {t : Nat} {a1 : Nat} {a2 : Nat} {a3 : Int32} {k3 : (Int32 → Mm → Option Mm)} {x4 : Int32} {μ : Mm} {out : Mm} (F : FX G b RX1 cX1_typeLabel 5 p s m args meth c) (hr : meth.sig.returnType = none) (ht : okLa t) (ha1 : okTx a1) (ha2 : okBk a2) (hk3 : ∀ (x4 : Int32) (μ : Mm) (H : Heap) (locs : List Loc) (ls : Array Slot), k3 x4 μ = some out → WH G b μ H → va_S (fb b) s.heap H locs → lv_has ls 5 [(0, .ref (b + t)), (1, .ref (b + a1)), (2, .ref (b + a2)), (3, .int a3), (4, .int x4)] → W p l e ({ frames := 2, cells := 0, slots := 0, locals := 46 } : Room) s m args below meth c H locs 0 0 (MQ below (QW G b out none) args s 0 0 (fb b)) (F0 m 3 ls [])) (h : sh_X1_typeLabel_28 n t a1 a2 a3 k3 x4 μ = some out) (hW : WH G b μ H) (hS : va_S (fb b) s.heap H locs) (hl : lv_has ls 5 [(0, .ref (b + t)), (1, .ref (b + a1)), (2, .ref (b + a2)), (3, .int a3), (4, .int x4)]) : W p l e ({ frames := 2, cells := 0, slots := 0, locals := 46 } : Room) s m args below meth c H locs 0 0 (MQ below (QW G b out none) args s 0 0 (fb b)) (F0 m 28 ls []) := by
  have hx := F.1
  have hb := F.2.1
  unfold sh_X1_typeLabel_28 at h
  refine lv_aload_n hx hb dX1_typeLabel_28 rfl (lv_at hl 1 rfl) ?_
  refine lv_aload_n hx hb dX1_typeLabel_29 rfl (lv_at hl 0 rfl) ?_
  refine fl_get1 (v := .ref (b + (t + 1))) (ht).1 F hW 0 (by decide) q_360 rfl rfl dX1_typeLabel_30 ?_
  refine lv_aload_n hx hb dX1_typeLabel_33 rfl (lv_at hl 2 rfl) ?_
  refine lv_iload_n hx hb dX1_typeLabel_34 rfl (lv_at hl 3 rfl) ?_
  refine lv_iload hx hb dX1_typeLabel_35 (lv_at hl 4 rfl) ?_
  obtain ⟨r3, qr3, h⟩ := ob h
  refine k_X2_ordinalAt F (ht).2.1 ha2 qr3 q_907 ⟨Nat.le_of_ble_eq_true rfl, Nat.le_of_ble_eq_true rfl, Nat.le_of_ble_eq_true rfl, Nat.le_of_ble_eq_true rfl⟩ hW hS hl.1 (Nat.le_of_ble_eq_true rfl) dX1_typeLabel_37 (fun H locs hW hS => ?_)
  obtain ⟨r4, qr4, h⟩ := ob h
  refine k_X8_putArabic F ha1 qr4 q_911 ⟨Nat.le_of_ble_eq_true rfl, Nat.le_of_ble_eq_true rfl, Nat.le_of_ble_eq_true rfl, Nat.le_of_ble_eq_true rfl⟩ hW hS hl.1 (Nat.le_of_ble_eq_true rfl) dX1_typeLabel_40 (fun H locs hW hS => ?_)
  refine lv_iinc (v := (x4 + (1 : Int32))) (lv' := [(4, .int (x4 + (1 : Int32))), (0, .ref (b + t)), (1, .ref (b + a1)), (2, .ref (b + a2)), (3, .int a3)]) hx hb dX1_typeLabel_43 hl (k := 4) rfl rfl (by decide) rfl (fun ls hl => ?_)
  refine lv_goto (tgt := 3) hx hb dX1_typeLabel_46 (by decide) ?_
  exact hk3 _ _ _ _ _ h hW hS (lv_sub hl [1, 2, 3, 4, 0] rfl)
set_option maxHeartbeats 4000000 in
set_option maxRecDepth 100000 in
theorem wk_X1_typeLabel_3 {n : Nat} {t : Nat} {a1 : Nat} {a2 : Nat} {a3 : Int32} {out : Mm} (F : FX G b RX1 cX1_typeLabel 5 p s m args meth c) (hr : meth.sig.returnType = none) (ht : okLa t) (ha1 : okTx a1) (ha2 : okBk a2) : ∀ (f : Nat) (x4 : Int32) (μ : Mm) (H : Heap) (locs : List Loc) (ls : Array Slot), sh_X1_typeLabel_3 n t a1 a2 a3 f x4 μ = some out → WH G b μ H → va_S (fb b) s.heap H locs → lv_has ls 5 [(0, .ref (b + t)), (1, .ref (b + a1)), (2, .ref (b + a2)), (3, .int a3), (4, .int x4)] → W p l e ({ frames := 2, cells := 0, slots := 0, locals := 46 } : Room) s m args below meth c H locs 0 0 (MQ below (QW G b out none) args s 0 0 (fb b)) (F0 m 3 ls []) := by
  have hx := F.1
  have hb := F.2.1
  intro f
  induction f with
  | zero =>
    intro _ _ _ _ _ h
    rw [sh_X1_typeLabel_3] at h
    cases h
  | succ f ih =>
    intro x4 μ H locs ls h hW hS hl
    rw [sh_X1_typeLabel_3] at h
    have hk3 := ih
    refine lv_iload hx hb dX1_typeLabel_3 (lv_at hl 4 rfl) ?_
    refine lv_aload_n hx hb dX1_typeLabel_5 rfl (lv_at hl 2 rfl) ?_
    refine fl_get0 (v := .ref (b + (a2 + 3))) (ha2).1 F hW 4 (by decide) q_173 rfl rfl dX1_typeLabel_6 ?_
    refine lv_iload_n hx hb dX1_typeLabel_9 rfl (lv_at hl 3 rfl) ?_
    obtain ⟨r1, qr1, h⟩ := ob h
    refine k_X5_at F (ha2).2.2.1 qr1 q_529 ⟨Nat.le_of_ble_eq_true rfl, Nat.le_of_ble_eq_true rfl, Nat.le_of_ble_eq_true rfl, Nat.le_of_ble_eq_true rfl⟩ hW hS hl.1 (Nat.le_of_ble_eq_true rfl) dX1_typeLabel_10 (fun H locs hW hS => ?_)
    refine lv_icmp_gt (tgt := 49) hx hb dX1_typeLabel_13 (by decide) (fun cc => ?_) (fun cc => ?_)
    · replace h := (if_pos cc).symm.trans h
      refine lv_aload_n hx hb dX1_typeLabel_49 rfl (lv_at hl 1 rfl) ?_
      refine lv_bipush (v := (32 : Int32)) hx hb dX1_typeLabel_50 (by decide) ?_
      obtain ⟨r2, qr2, h⟩ := ob h
      refine k_X8_put F ha1 qr2 q_902 ⟨Nat.le_of_ble_eq_true rfl, Nat.le_of_ble_eq_true rfl, Nat.le_of_ble_eq_true rfl, Nat.le_of_ble_eq_true rfl⟩ hW hS hl.1 (Nat.le_of_ble_eq_true rfl) dX1_typeLabel_52 (fun H locs hW hS => ?_)
      cases h
      exact r_void F hr hW hS dX1_typeLabel_55
    · replace h := (if_neg cc).symm.trans h
      refine lv_iload hx hb dX1_typeLabel_16 (lv_at hl 4 rfl) ?_
      refine lv_iconst (v := (1 : Int32)) hx hb dX1_typeLabel_18 (by decide) ?_
      refine lv_icmp_le (tgt := 28) hx hb dX1_typeLabel_19 (by decide) (fun cc => ?_) (fun cc => ?_)
      · replace h := (if_pos cc).symm.trans h
        exact wk_X1_typeLabel_28 F hr ht ha1 ha2 hk3 h hW hS (lv_sub hl [0, 1, 2, 3, 4] rfl)
      · replace h := (if_neg cc).symm.trans h
        refine lv_aload_n hx hb dX1_typeLabel_22 rfl (lv_at hl 1 rfl) ?_
        refine lv_bipush (v := (46 : Int32)) hx hb dX1_typeLabel_23 (by decide) ?_
        obtain ⟨r5, qr5, h⟩ := ob h
        refine k_X8_put F ha1 qr5 q_902 ⟨Nat.le_of_ble_eq_true rfl, Nat.le_of_ble_eq_true rfl, Nat.le_of_ble_eq_true rfl, Nat.le_of_ble_eq_true rfl⟩ hW hS hl.1 (Nat.le_of_ble_eq_true rfl) dX1_typeLabel_25 (fun H locs hW hS => ?_)
        exact wk_X1_typeLabel_28 F hr ht ha1 ha2 hk3 h hW hS (lv_sub hl [0, 1, 2, 3, 4] rfl)
set_option maxHeartbeats 4000000 in
set_option maxRecDepth 100000 in
theorem wk_X1_typeLabel {n : Nat} {t : Nat} {a1 : Nat} {a2 : Nat} {a3 : Int32} {μ : Mm} {out : Mm} (F : FX G b RX1 cX1_typeLabel 5 p s m args meth c) (hr : meth.sig.returnType = none) (ht : okLa t) (ha1 : okTx a1) (ha2 : okBk a2) (h : sh_X1_typeLabel n t a1 a2 a3 μ = some out) (hW : WH G b μ H) (hS : va_S (fb b) s.heap H locs) (hl : lv_has ls 5 [(0, .ref (b + t)), (1, .ref (b + a1)), (2, .ref (b + a2)), (3, .int a3)]) : W p l e ({ frames := 2, cells := 0, slots := 0, locals := 46 } : Room) s m args below meth c H locs 0 0 (MQ below (QW G b out none) args s 0 0 (fb b)) (F0 m 0 ls []) := by
  have hx := F.1
  have hb := F.2.1
  unfold sh_X1_typeLabel at h
  refine lv_iconst (v := (1 : Int32)) hx hb dX1_typeLabel_0 (by decide) ?_
  refine lv_istore (lv' := [(4, .int (1 : Int32)), (0, .ref (b + t)), (1, .ref (b + a1)), (2, .ref (b + a2)), (3, .int a3)]) hx hb dX1_typeLabel_1 hl (by decide) rfl (fun ls hl => ?_)
  exact wk_X1_typeLabel_3 F hr ht ha1 ha2 n _ _ _ _ _ h hW hS (lv_sub hl [1, 2, 3, 4, 0] rfl)
set_option maxHeartbeats 4000000 in
set_option maxRecDepth 100000 in
theorem c_X1_typeLabel {l : Launch} {G : Gt} {b : Nat} {n : Nat} {t : Nat} {a1 : Nat} {a2 : Nat} {a3 : Int32} {μ : Mm} {out : Mm} (ht : okLa t) (ha1 : okTx a1) (ha2 : okBk a2) (h : sh_X1_typeLabel n t a1 a2 a3 μ = some out) : Met l yX1_typeLabel (wU (Cond.code yX1_typeLabel cX1_typeLabel 5 none)) ({ frames := 2, cells := 0, slots := 0, locals := 46 } : Room) (PcW G b μ [.ref (b + t), .ref (b + a1), .ref (b + a2), .int a3]) (QW G b out none) 0 0 (fb b) :=
  met_of [.ref (b + t), .ref (b + a1), .ref (b + a2), .int a3] (by decide) (Nat.le_of_ble_eq_true rfl) (fun F hr hW hl => wk_X1_typeLabel F hr ht ha1 ha2 h hW va_S.rf hl)
set_option maxHeartbeats 4000000 in
set_option maxRecDepth 100000 in
theorem k_X1_typeLabel {own : String} {nL : Nat} (F : FX G b own cc nL p s m args meth c) {n : Nat} {t : Nat} {a1 : Nat} {a2 : Nat} {a3 : Int32} {μ : Mm} {out : Mm} (ht : okLa t) (ha1 : okTx a1) (ha2 : okBk a2) (h : sh_X1_typeLabel n t a1 a2 a3 μ = some out) {index : Nat} (hl : Cond.methodLink own index yX1_typeLabel ∈ TBG) (hR : 2 + 1 ≤ R.frames ∧ 8 + (5 + 11) + 46 ≤ R.locals ∧ cells ≤ R.cells ∧ slots ≤ R.slots) (hW : WH G b μ H) (hS : va_S (fb b) s.heap H locs) (hsz : ls.size = nL) (hrest : (rest.map fun v => v.category).sum ≤ 8) (hdg : decode cc pc = .ok (.invokevirtual index, 3))
    (kk : ∀ (H1 : Heap) (locs1 : List Loc), WH G b out H1 → va_S (fb b) s.heap H1 locs1 → W p l e R s m args below meth c H1 locs1 cells slots Q (F0 m (pc + 3) ls (rest))) : W p l e R s m args below meth c H locs cells slots Q (F0 m pc ls (.int a3 :: .ref (b + a2) :: .ref (b + a1) :: .ref (b + t) :: rest)) :=
  f_callV (As := [.ref (b + a1), .ref (b + a2), .int a3]) (ci := 1) (c_X1_typeLabel ht ha1 ha2 h) ⟨rfl, rfl⟩ rfl (ky_lt ht.1 (by decide)) (wF_1 ht.1) q_905 qp_28 q_9 q_906 rfl ⟨by decide +kernel, by decide +kernel, (show (parseMethodDescriptor yX1_typeLabel.desc).map (fun d => d.parameters.length) = some 3 by decide +kernel)⟩ F hl hR hW hS hsz hrest rfl hdg kk
set_option maxHeartbeats 4000000 in
set_option maxRecDepth 100000 in
theorem wk_X1_typeLine_102 {n : Nat} {t : Nat} {a1 : Nat} {a2 : Nat} {a3 : Int32} {k47 : (Int32 → Int32 → Int32 → Mm → Option Mm)} {x4 : Int32} {x5 : Int32} {x6 : Int32} {μ : Mm} {out : Mm} (F : FX G b RX1 cX1_typeLine 7 p s m args meth c) (hr : meth.sig.returnType = none) (ht : okLa t) (ha1 : okTx a1) (ha2 : okBk a2) (hk47 : ∀ (x4 : Int32) (x5 : Int32) (x6 : Int32) (μ : Mm) (H : Heap) (locs : List Loc) (ls : Array Slot), k47 x4 x5 x6 μ = some out → WH G b μ H → va_S (fb b) s.heap H locs → lv_has ls 7 [(0, .ref (b + t)), (1, .ref (b + a1)), (2, .ref (b + a2)), (3, .int a3), (4, .int x4), (5, .int x5), (6, .int x6)] → W p l e ({ frames := 3, cells := 0, slots := 0, locals := 70 } : Room) s m args below meth c H locs 0 0 (MQ below (QW G b out none) args s 0 0 (fb b)) (F0 m 47 ls [])) (h : sh_X1_typeLine_102 n t a1 a2 a3 k47 x4 x5 x6 μ = some out) (hW : WH G b μ H) (hS : va_S (fb b) s.heap H locs) (hl : lv_has ls 7 [(0, .ref (b + t)), (1, .ref (b + a1)), (2, .ref (b + a2)), (3, .int a3), (4, .int x4), (5, .int x5), (6, .int x6)]) : W p l e ({ frames := 3, cells := 0, slots := 0, locals := 70 } : Room) s m args below meth c H locs 0 0 (MQ below (QW G b out none) args s 0 0 (fb b)) (F0 m 102 ls []) := by
  have hx := F.1
  have hb := F.2.1
  unfold sh_X1_typeLine_102 at h
  refine lv_aload_n hx hb dX1_typeLine_102 rfl (lv_at hl 1 rfl) ?_
  refine lv_aload_n hx hb dX1_typeLine_103 rfl (lv_at hl 2 rfl) ?_
  refine fl_get0 (v := .ref (b + (a2 + 9))) (ha2).1 F hW 7 (by decide) q_188 rfl rfl dX1_typeLine_104 ?_
  refine lv_iload hx hb dX1_typeLine_107 (lv_at hl 4 rfl) ?_
  refine lv_bipush (v := (8 : Int32)) hx hb dX1_typeLine_109 (by decide) ?_
  refine lv_imul hx hb dX1_typeLine_111 ?_
  refine lv_iload hx hb dX1_typeLine_112 (lv_at hl 6 rfl) ?_
  refine lv_iadd hx hb dX1_typeLine_114 ?_
  obtain ⟨r19, qr19, h⟩ := ob h
  refine k_X9_at F (ha2).2.2.2.2.2.1 qr19 q_917 ⟨Nat.le_of_ble_eq_true rfl, Nat.le_of_ble_eq_true rfl, Nat.le_of_ble_eq_true rfl, Nat.le_of_ble_eq_true rfl⟩ hW hS hl.1 (Nat.le_of_ble_eq_true rfl) dX1_typeLine_115 (fun H locs hW hS => ?_)
  obtain ⟨r20, qr20, h⟩ := ob h
  refine k_X8_putWord F ha1 qr20 q_918 ⟨Nat.le_of_ble_eq_true rfl, Nat.le_of_ble_eq_true rfl, Nat.le_of_ble_eq_true rfl, Nat.le_of_ble_eq_true rfl⟩ hW hS hl.1 (Nat.le_of_ble_eq_true rfl) dX1_typeLine_118 (fun H locs hW hS => ?_)
  refine lv_iinc (v := (x6 + (1 : Int32))) (lv' := [(6, .int (x6 + (1 : Int32))), (0, .ref (b + t)), (1, .ref (b + a1)), (2, .ref (b + a2)), (3, .int a3), (4, .int x4), (5, .int x5)]) hx hb dX1_typeLine_121 hl (k := 6) rfl rfl (by decide) rfl (fun ls hl => ?_)
  refine lv_goto (tgt := 47) hx hb dX1_typeLine_124 (by decide) ?_
  exact hk47 _ _ _ _ _ _ _ h hW hS (lv_sub hl [1, 2, 3, 4, 5, 6, 0] rfl)
set_option maxHeartbeats 4000000 in
set_option maxRecDepth 100000 in
theorem wk_X1_typeLine_79 {n : Nat} {t : Nat} {a1 : Nat} {a2 : Nat} {a3 : Int32} {k47 : (Int32 → Int32 → Int32 → Mm → Option Mm)} {x4 : Int32} {x5 : Int32} {x6 : Int32} {μ : Mm} {out : Mm} (F : FX G b RX1 cX1_typeLine 7 p s m args meth c) (hr : meth.sig.returnType = none) (ht : okLa t) (ha1 : okTx a1) (ha2 : okBk a2) (hk47 : ∀ (x4 : Int32) (x5 : Int32) (x6 : Int32) (μ : Mm) (H : Heap) (locs : List Loc) (ls : Array Slot), k47 x4 x5 x6 μ = some out → WH G b μ H → va_S (fb b) s.heap H locs → lv_has ls 7 [(0, .ref (b + t)), (1, .ref (b + a1)), (2, .ref (b + a2)), (3, .int a3), (4, .int x4), (5, .int x5), (6, .int x6)] → W p l e ({ frames := 3, cells := 0, slots := 0, locals := 70 } : Room) s m args below meth c H locs 0 0 (MQ below (QW G b out none) args s 0 0 (fb b)) (F0 m 47 ls [])) (h : sh_X1_typeLine_79 n t a1 a2 a3 k47 x4 x5 x6 μ = some out) (hW : WH G b μ H) (hS : va_S (fb b) s.heap H locs) (hl : lv_has ls 7 [(0, .ref (b + t)), (1, .ref (b + a1)), (2, .ref (b + a2)), (3, .int a3), (4, .int x4), (5, .int x5), (6, .int x6)]) : W p l e ({ frames := 3, cells := 0, slots := 0, locals := 70 } : Room) s m args below meth c H locs 0 0 (MQ below (QW G b out none) args s 0 0 (fb b)) (F0 m 79 ls []) := by
  have hx := F.1
  have hb := F.2.1
  unfold sh_X1_typeLine_79 at h
  refine lv_iload hx hb dX1_typeLine_79 (lv_at hl 6 rfl) ?_
  refine lv_if_ne (tgt := 102) hx hb dX1_typeLine_81 (by decide) (fun cc => ?_) (fun cc => ?_)
  · replace h := (if_neg cc).symm.trans h
    exact wk_X1_typeLine_102 F hr ht ha1 ha2 hk47 h hW hS (lv_sub hl [0, 1, 2, 3, 4, 5, 6] rfl)
  · replace h := (if_pos cc).symm.trans h
    refine lv_aload_n hx hb dX1_typeLine_84 rfl (lv_at hl 2 rfl) ?_
    refine lv_iload hx hb dX1_typeLine_85 (lv_at hl 4 rfl) ?_
    obtain ⟨r21, qr21, h⟩ := ob h
    refine k_X0_partOf F ha2 qr21 q_838 ⟨Nat.le_of_ble_eq_true rfl, Nat.le_of_ble_eq_true rfl, Nat.le_of_ble_eq_true rfl, Nat.le_of_ble_eq_true rfl⟩ hW hS hl.1 (Nat.le_of_ble_eq_true rfl) dX1_typeLine_87 (fun H locs hW hS => ?_)
    refine lv_iconst (v := (1 : Int32)) hx hb dX1_typeLine_90 (by decide) ?_
    refine lv_icmp_ne (tgt := 102) hx hb dX1_typeLine_91 (by decide) (fun cc => ?_) (fun cc => ?_)
    · replace h := (if_neg cc).symm.trans h
      exact wk_X1_typeLine_102 F hr ht ha1 ha2 hk47 h hW hS (lv_sub hl [0, 1, 2, 3, 4, 5, 6] rfl)
    · replace h := (if_pos cc).symm.trans h
      refine lv_aload_n hx hb dX1_typeLine_94 rfl (lv_at hl 0 rfl) ?_
      refine lv_aload_n hx hb dX1_typeLine_95 rfl (lv_at hl 1 rfl) ?_
      refine lv_aload_n hx hb dX1_typeLine_96 rfl (lv_at hl 2 rfl) ?_
      refine lv_iload hx hb dX1_typeLine_97 (lv_at hl 4 rfl) ?_
      obtain ⟨r22, qr22, h⟩ := ob h
      refine k_X1_typeLabel F ht ha1 ha2 qr22 q_903 ⟨Nat.le_of_ble_eq_true rfl, Nat.le_of_ble_eq_true rfl, Nat.le_of_ble_eq_true rfl, Nat.le_of_ble_eq_true rfl⟩ hW hS hl.1 (Nat.le_of_ble_eq_true rfl) dX1_typeLine_99 (fun H locs hW hS => ?_)
      exact wk_X1_typeLine_102 F hr ht ha1 ha2 hk47 h hW hS (lv_sub hl [0, 1, 2, 3, 4, 5, 6] rfl)
set_option maxHeartbeats 4000000 in
set_option maxRecDepth 100000 in
theorem wk_X1_typeLine_47 {n : Nat} {t : Nat} {a1 : Nat} {a2 : Nat} {a3 : Int32} {out : Mm} (F : FX G b RX1 cX1_typeLine 7 p s m args meth c) (hr : meth.sig.returnType = none) (ht : okLa t) (ha1 : okTx a1) (ha2 : okBk a2) : ∀ (f : Nat) (x4 : Int32) (x5 : Int32) (x6 : Int32) (μ : Mm) (H : Heap) (locs : List Loc) (ls : Array Slot), sh_X1_typeLine_47 n t a1 a2 a3 f x4 x5 x6 μ = some out → WH G b μ H → va_S (fb b) s.heap H locs → lv_has ls 7 [(0, .ref (b + t)), (1, .ref (b + a1)), (2, .ref (b + a2)), (3, .int a3), (4, .int x4), (5, .int x5), (6, .int x6)] → W p l e ({ frames := 3, cells := 0, slots := 0, locals := 70 } : Room) s m args below meth c H locs 0 0 (MQ below (QW G b out none) args s 0 0 (fb b)) (F0 m 47 ls []) := by
  have hx := F.1
  have hb := F.2.1
  intro f
  induction f with
  | zero =>
    intro _ _ _ _ _ _ _ h
    rw [sh_X1_typeLine_47] at h
    cases h
  | succ f ih =>
    intro x4 x5 x6 μ H locs ls h hW hS hl
    rw [sh_X1_typeLine_47] at h
    have hk47 := ih
    refine lv_iload hx hb dX1_typeLine_47 (lv_at hl 6 rfl) ?_
    refine lv_iload hx hb dX1_typeLine_49 (lv_at hl 5 rfl) ?_
    refine lv_aload_n hx hb dX1_typeLine_51 rfl (lv_at hl 0 rfl) ?_
    refine fl_get1 (v := .ref (b + (t + 23))) (ht).1 F hW 2 (by decide) q_364 rfl rfl dX1_typeLine_52 ?_
    refine fl_get7 (v := .ref (b + (t + 30))) ((ht).2.2.2).1 F hW 6 (by decide) q_322 rfl rfl dX1_typeLine_55 ?_
    refine lv_iload_n hx hb dX1_typeLine_58 rfl (lv_at hl 3 rfl) ?_
    obtain ⟨r5, qr5, h⟩ := ob h
    refine k_X5_at F ((ht).2.2.2).2.2.2.2.1 qr5 q_529 ⟨Nat.le_of_ble_eq_true rfl, Nat.le_of_ble_eq_true rfl, Nat.le_of_ble_eq_true rfl, Nat.le_of_ble_eq_true rfl⟩ hW hS hl.1 (Nat.le_of_ble_eq_true rfl) dX1_typeLine_59 (fun H locs hW hS => ?_)
    refine lv_iadd hx hb dX1_typeLine_62 ?_
    refine lv_icmp_ge (tgt := 127) hx hb dX1_typeLine_63 (by decide) (fun cc => ?_) (fun cc => ?_)
    · replace h := (if_pos cc).symm.trans h
      refine lv_aload_n hx hb dX1_typeLine_127 rfl (lv_at hl 0 rfl) ?_
      refine fl_get1 (v := .ref (b + (t + 23))) (ht).1 F hW 2 (by decide) q_364 rfl rfl dX1_typeLine_128 ?_
      refine lv_iload_n hx hb dX1_typeLine_131 rfl (lv_at hl 3 rfl) ?_
      obtain ⟨r6, qr6, h⟩ := ob h
      refine k_X7_isLastLine F (ht).2.2.2 qr6 q_830 ⟨Nat.le_of_ble_eq_true rfl, Nat.le_of_ble_eq_true rfl, Nat.le_of_ble_eq_true rfl, Nat.le_of_ble_eq_true rfl⟩ hW hS hl.1 (Nat.le_of_ble_eq_true rfl) dX1_typeLine_132 (fun H locs hW hS => ?_)
      refine lv_if_eq (tgt := 212) hx hb dX1_typeLine_135 (by decide) (fun cc => ?_) (fun cc => ?_)
      · replace h := (if_pos cc).symm.trans h
        refine lv_aload_n hx hb dX1_typeLine_212 rfl (lv_at hl 1 rfl) ?_
        refine lv_bipush (v := (10 : Int32)) hx hb dX1_typeLine_213 (by decide) ?_
        obtain ⟨r7, qr7, h⟩ := ob h
        refine k_X8_put F ha1 qr7 q_902 ⟨Nat.le_of_ble_eq_true rfl, Nat.le_of_ble_eq_true rfl, Nat.le_of_ble_eq_true rfl, Nat.le_of_ble_eq_true rfl⟩ hW hS hl.1 (Nat.le_of_ble_eq_true rfl) dX1_typeLine_215 (fun H locs hW hS => ?_)
        cases h
        exact r_void F hr hW hS dX1_typeLine_218
      · replace h := (if_neg cc).symm.trans h
        refine lv_aload_n hx hb dX1_typeLine_138 rfl (lv_at hl 1 rfl) ?_
        refine lv_bipush (v := (32 : Int32)) hx hb dX1_typeLine_139 (by decide) ?_
        obtain ⟨r8, qr8, h⟩ := ob h
        refine k_X8_put F ha1 qr8 q_902 ⟨Nat.le_of_ble_eq_true rfl, Nat.le_of_ble_eq_true rfl, Nat.le_of_ble_eq_true rfl, Nat.le_of_ble_eq_true rfl⟩ hW hS hl.1 (Nat.le_of_ble_eq_true rfl) dX1_typeLine_141 (fun H locs hW hS => ?_)
        refine lv_aload_n hx hb dX1_typeLine_144 rfl (lv_at hl 1 rfl) ?_
        refine lv_bipush (v := (46 : Int32)) hx hb dX1_typeLine_145 (by decide) ?_
        refine lv_aload_n hx hb dX1_typeLine_147 rfl (lv_at hl 0 rfl) ?_
        refine fl_get1 (v := .ref (b + (t + 23))) (ht).1 F hW 2 (by decide) q_364 rfl rfl dX1_typeLine_148 ?_
        refine fl_get7 (v := .ref (b + (t + 40))) ((ht).2.2.2).1 F hW 11 (by decide) q_333 rfl rfl dX1_typeLine_151 ?_
        refine lv_iload hx hb dX1_typeLine_154 (lv_at hl 4 rfl) ?_
        obtain ⟨r9, qr9, h⟩ := ob h
        refine k_X5_at F ((ht).2.2.2).2.2.2.2.2.2.2.2.2 qr9 q_529 ⟨Nat.le_of_ble_eq_true rfl, Nat.le_of_ble_eq_true rfl, Nat.le_of_ble_eq_true rfl, Nat.le_of_ble_eq_true rfl⟩ hW hS hl.1 (Nat.le_of_ble_eq_true rfl) dX1_typeLine_156 (fun H locs hW hS => ?_)
        obtain ⟨r10, qr10, h⟩ := ob h
        refine k_X8_putTimes F ha1 qr10 q_894 ⟨Nat.le_of_ble_eq_true rfl, Nat.le_of_ble_eq_true rfl, Nat.le_of_ble_eq_true rfl, Nat.le_of_ble_eq_true rfl⟩ hW hS hl.1 (Nat.le_of_ble_eq_true rfl) dX1_typeLine_159 (fun H locs hW hS => ?_)
        refine lv_aload_n hx hb dX1_typeLine_162 rfl (lv_at hl 1 rfl) ?_
        refine lv_bipush (v := (32 : Int32)) hx hb dX1_typeLine_163 (by decide) ?_
        obtain ⟨r11, qr11, h⟩ := ob h
        refine k_X8_put F ha1 qr11 q_902 ⟨Nat.le_of_ble_eq_true rfl, Nat.le_of_ble_eq_true rfl, Nat.le_of_ble_eq_true rfl, Nat.le_of_ble_eq_true rfl⟩ hW hS hl.1 (Nat.le_of_ble_eq_true rfl) dX1_typeLine_165 (fun H locs hW hS => ?_)
        refine lv_aload_n hx hb dX1_typeLine_168 rfl (lv_at hl 2 rfl) ?_
        refine lv_iload hx hb dX1_typeLine_169 (lv_at hl 4 rfl) ?_
        obtain ⟨r12, qr12, h⟩ := ob h
        refine k_X0_partOf F ha2 qr12 q_838 ⟨Nat.le_of_ble_eq_true rfl, Nat.le_of_ble_eq_true rfl, Nat.le_of_ble_eq_true rfl, Nat.le_of_ble_eq_true rfl⟩ hW hS hl.1 (Nat.le_of_ble_eq_true rfl) dX1_typeLine_171 (fun H locs hW hS => ?_)
        refine lv_if_ne (tgt := 196) hx hb dX1_typeLine_174 (by decide) (fun cc => ?_) (fun cc => ?_)
        · replace h := (if_neg cc).symm.trans h
          refine lv_aload_n hx hb dX1_typeLine_196 rfl (lv_at hl 1 rfl) ?_
          refine lv_aload_n hx hb dX1_typeLine_197 rfl (lv_at hl 0 rfl) ?_
          refine fl_get1 (v := .ref (b + (t + 14))) (ht).1 F hW 1 (by decide) q_362 rfl rfl dX1_typeLine_198 ?_
          refine fl_get3 (v := .ref (b + (t + 15))) ((ht).2.2.1).1 F hW 0 (by decide) q_272 rfl rfl dX1_typeLine_201 ?_
          refine lv_iload hx hb dX1_typeLine_204 (lv_at hl 4 rfl) ?_
          obtain ⟨r13, qr13, h⟩ := ob h
          refine k_X5_at F ((ht).2.2.1).2.1 qr13 q_529 ⟨Nat.le_of_ble_eq_true rfl, Nat.le_of_ble_eq_true rfl, Nat.le_of_ble_eq_true rfl, Nat.le_of_ble_eq_true rfl⟩ hW hS hl.1 (Nat.le_of_ble_eq_true rfl) dX1_typeLine_206 (fun H locs hW hS => ?_)
          obtain ⟨r14, qr14, h⟩ := ob h
          refine k_X8_putArabic F ha1 qr14 q_911 ⟨Nat.le_of_ble_eq_true rfl, Nat.le_of_ble_eq_true rfl, Nat.le_of_ble_eq_true rfl, Nat.le_of_ble_eq_true rfl⟩ hW hS hl.1 (Nat.le_of_ble_eq_true rfl) dX1_typeLine_209 (fun H locs hW hS => ?_)
          refine lv_aload_n hx hb dX1_typeLine_212 rfl (lv_at hl 1 rfl) ?_
          refine lv_bipush (v := (10 : Int32)) hx hb dX1_typeLine_213 (by decide) ?_
          obtain ⟨r15, qr15, h⟩ := ob h
          refine k_X8_put F ha1 qr15 q_902 ⟨Nat.le_of_ble_eq_true rfl, Nat.le_of_ble_eq_true rfl, Nat.le_of_ble_eq_true rfl, Nat.le_of_ble_eq_true rfl⟩ hW hS hl.1 (Nat.le_of_ble_eq_true rfl) dX1_typeLine_215 (fun H locs hW hS => ?_)
          cases h
          exact r_void F hr hW hS dX1_typeLine_218
        · replace h := (if_pos cc).symm.trans h
          refine lv_aload_n hx hb dX1_typeLine_177 rfl (lv_at hl 1 rfl) ?_
          refine lv_aload_n hx hb dX1_typeLine_178 rfl (lv_at hl 0 rfl) ?_
          refine fl_get1 (v := .ref (b + (t + 14))) (ht).1 F hW 1 (by decide) q_362 rfl rfl dX1_typeLine_179 ?_
          refine fl_get3 (v := .ref (b + (t + 15))) ((ht).2.2.1).1 F hW 0 (by decide) q_272 rfl rfl dX1_typeLine_182 ?_
          refine lv_iload hx hb dX1_typeLine_185 (lv_at hl 4 rfl) ?_
          obtain ⟨r16, qr16, h⟩ := ob h
          refine k_X5_at F ((ht).2.2.1).2.1 qr16 q_529 ⟨Nat.le_of_ble_eq_true rfl, Nat.le_of_ble_eq_true rfl, Nat.le_of_ble_eq_true rfl, Nat.le_of_ble_eq_true rfl⟩ hW hS hl.1 (Nat.le_of_ble_eq_true rfl) dX1_typeLine_187 (fun H locs hW hS => ?_)
          obtain ⟨r17, qr17, h⟩ := ob h
          refine k_X8_putRoman F ha1 qr17 q_923 ⟨Nat.le_of_ble_eq_true rfl, Nat.le_of_ble_eq_true rfl, Nat.le_of_ble_eq_true rfl, Nat.le_of_ble_eq_true rfl⟩ hW hS hl.1 (Nat.le_of_ble_eq_true rfl) dX1_typeLine_190 (fun H locs hW hS => ?_)
          refine lv_goto (tgt := 212) hx hb dX1_typeLine_193 (by decide) ?_
          refine lv_aload_n hx hb dX1_typeLine_212 rfl (lv_at hl 1 rfl) ?_
          refine lv_bipush (v := (10 : Int32)) hx hb dX1_typeLine_213 (by decide) ?_
          obtain ⟨r18, qr18, h⟩ := ob h
          refine k_X8_put F ha1 qr18 q_902 ⟨Nat.le_of_ble_eq_true rfl, Nat.le_of_ble_eq_true rfl, Nat.le_of_ble_eq_true rfl, Nat.le_of_ble_eq_true rfl⟩ hW hS hl.1 (Nat.le_of_ble_eq_true rfl) dX1_typeLine_215 (fun H locs hW hS => ?_)
          cases h
          exact r_void F hr hW hS dX1_typeLine_218
    · replace h := (if_neg cc).symm.trans h
      refine lv_iload hx hb dX1_typeLine_66 (lv_at hl 6 rfl) ?_
      refine lv_iload hx hb dX1_typeLine_68 (lv_at hl 5 rfl) ?_
      refine lv_icmp_le (tgt := 79) hx hb dX1_typeLine_70 (by decide) (fun cc => ?_) (fun cc => ?_)
      · replace h := (if_pos cc).symm.trans h
        exact wk_X1_typeLine_79 F hr ht ha1 ha2 hk47 h hW hS (lv_sub hl [0, 1, 2, 3, 4, 5, 6] rfl)
      · replace h := (if_neg cc).symm.trans h
        refine lv_aload_n hx hb dX1_typeLine_73 rfl (lv_at hl 1 rfl) ?_
        refine lv_bipush (v := (32 : Int32)) hx hb dX1_typeLine_74 (by decide) ?_
        obtain ⟨r23, qr23, h⟩ := ob h
        refine k_X8_put F ha1 qr23 q_902 ⟨Nat.le_of_ble_eq_true rfl, Nat.le_of_ble_eq_true rfl, Nat.le_of_ble_eq_true rfl, Nat.le_of_ble_eq_true rfl⟩ hW hS hl.1 (Nat.le_of_ble_eq_true rfl) dX1_typeLine_76 (fun H locs hW hS => ?_)
        exact wk_X1_typeLine_79 F hr ht ha1 ha2 hk47 h hW hS (lv_sub hl [0, 1, 2, 3, 4, 5, 6] rfl)
set_option maxHeartbeats 4000000 in
set_option maxRecDepth 100000 in
theorem wk_X1_typeLine {n : Nat} {t : Nat} {a1 : Nat} {a2 : Nat} {a3 : Int32} {μ : Mm} {out : Mm} (F : FX G b RX1 cX1_typeLine 7 p s m args meth c) (hr : meth.sig.returnType = none) (ht : okLa t) (ha1 : okTx a1) (ha2 : okBk a2) (h : sh_X1_typeLine n t a1 a2 a3 μ = some out) (hW : WH G b μ H) (hS : va_S (fb b) s.heap H locs) (hl : lv_has ls 7 [(0, .ref (b + t)), (1, .ref (b + a1)), (2, .ref (b + a2)), (3, .int a3)]) : W p l e ({ frames := 3, cells := 0, slots := 0, locals := 70 } : Room) s m args below meth c H locs 0 0 (MQ below (QW G b out none) args s 0 0 (fb b)) (F0 m 0 ls []) := by
  have hx := F.1
  have hb := F.2.1
  unfold sh_X1_typeLine at h
  refine lv_aload_n hx hb dX1_typeLine_0 rfl (lv_at hl 0 rfl) ?_
  refine fl_get1 (v := .ref (b + (t + 23))) (ht).1 F hW 2 (by decide) q_364 rfl rfl dX1_typeLine_1 ?_
  refine fl_get7 (v := .ref (b + (t + 24))) ((ht).2.2.2).1 F hW 3 (by decide) q_314 rfl rfl dX1_typeLine_4 ?_
  refine lv_iload_n hx hb dX1_typeLine_7 rfl (lv_at hl 3 rfl) ?_
  obtain ⟨r1, qr1, h⟩ := ob h
  refine k_X5_at F ((ht).2.2.2).2.1 qr1 q_529 ⟨Nat.le_of_ble_eq_true rfl, Nat.le_of_ble_eq_true rfl, Nat.le_of_ble_eq_true rfl, Nat.le_of_ble_eq_true rfl⟩ hW hS hl.1 (Nat.le_of_ble_eq_true rfl) dX1_typeLine_8 (fun H locs hW hS => ?_)
  refine lv_istore (lv' := [(4, .int r1), (0, .ref (b + t)), (1, .ref (b + a1)), (2, .ref (b + a2)), (3, .int a3)]) hx hb dX1_typeLine_11 hl (by decide) rfl (fun ls hl => ?_)
  refine lv_aload_n hx hb dX1_typeLine_13 rfl (lv_at hl 1 rfl) ?_
  refine fl_get1 (v := .ref (b + (t + 23))) (ht).1 F hW 2 (by decide) q_364 rfl rfl dX1_typeLine_14 ?_
  refine fl_get7 (v := .ref (b + (t + 32))) ((ht).2.2.2).1 F hW 7 (by decide) q_325 rfl rfl dX1_typeLine_17 ?_
  refine lv_iload_n hx hb dX1_typeLine_20 rfl (lv_at hl 4 rfl) ?_
  obtain ⟨r2, qr2, h⟩ := ob h
  refine k_X5_at F ((ht).2.2.2).2.2.2.2.2.1 qr2 q_529 ⟨Nat.le_of_ble_eq_true rfl, Nat.le_of_ble_eq_true rfl, Nat.le_of_ble_eq_true rfl, Nat.le_of_ble_eq_true rfl⟩ hW hS hl.1 (Nat.le_of_ble_eq_true rfl) dX1_typeLine_21 (fun H locs hW hS => ?_)
  refine lv_istore (lv' := [(5, .int r2), (4, .int r1), (0, .ref (b + t)), (1, .ref (b + a1)), (2, .ref (b + a2)), (3, .int a3)]) hx hb dX1_typeLine_24 hl (by decide) rfl (fun ls hl => ?_)
  refine lv_aload_n hx hb dX1_typeLine_26 rfl (lv_at hl 3 rfl) ?_
  refine lv_bipush (v := (32 : Int32)) hx hb dX1_typeLine_27 (by decide) ?_
  refine lv_aload_n hx hb dX1_typeLine_29 rfl (lv_at hl 2 rfl) ?_
  refine fl_get1 (v := .ref (b + (t + 23))) (ht).1 F hW 2 (by decide) q_364 rfl rfl dX1_typeLine_30 ?_
  refine fl_get7 (v := .ref (b + (t + 26))) ((ht).2.2.2).1 F hW 4 (by decide) q_317 rfl rfl dX1_typeLine_33 ?_
  refine lv_iload_n hx hb dX1_typeLine_36 rfl (lv_at hl 5 rfl) ?_
  obtain ⟨r3, qr3, h⟩ := ob h
  refine k_X5_at F ((ht).2.2.2).2.2.1 qr3 q_529 ⟨Nat.le_of_ble_eq_true rfl, Nat.le_of_ble_eq_true rfl, Nat.le_of_ble_eq_true rfl, Nat.le_of_ble_eq_true rfl⟩ hW hS hl.1 (Nat.le_of_ble_eq_true rfl) dX1_typeLine_37 (fun H locs hW hS => ?_)
  obtain ⟨r4, qr4, h⟩ := ob h
  refine k_X8_putTimes F ha1 qr4 q_894 ⟨Nat.le_of_ble_eq_true rfl, Nat.le_of_ble_eq_true rfl, Nat.le_of_ble_eq_true rfl, Nat.le_of_ble_eq_true rfl⟩ hW hS hl.1 (Nat.le_of_ble_eq_true rfl) dX1_typeLine_40 (fun H locs hW hS => ?_)
  refine lv_iload hx hb dX1_typeLine_43 (lv_at hl 0 rfl) ?_
  refine lv_istore (lv' := [(6, .int r2), (5, .int r2), (4, .int r1), (0, .ref (b + t)), (1, .ref (b + a1)), (2, .ref (b + a2)), (3, .int a3)]) hx hb dX1_typeLine_45 hl (by decide) rfl (fun ls hl => ?_)
  exact wk_X1_typeLine_47 F hr ht ha1 ha2 n _ _ _ _ _ _ _ h hW hS (lv_sub hl [3, 4, 5, 6, 2, 1, 0] rfl)
set_option maxHeartbeats 4000000 in
set_option maxRecDepth 100000 in
theorem c_X1_typeLine {l : Launch} {G : Gt} {b : Nat} {n : Nat} {t : Nat} {a1 : Nat} {a2 : Nat} {a3 : Int32} {μ : Mm} {out : Mm} (ht : okLa t) (ha1 : okTx a1) (ha2 : okBk a2) (h : sh_X1_typeLine n t a1 a2 a3 μ = some out) : Met l yX1_typeLine (wU (Cond.code yX1_typeLine cX1_typeLine 7 none)) ({ frames := 3, cells := 0, slots := 0, locals := 70 } : Room) (PcW G b μ [.ref (b + t), .ref (b + a1), .ref (b + a2), .int a3]) (QW G b out none) 0 0 (fb b) :=
  met_of [.ref (b + t), .ref (b + a1), .ref (b + a2), .int a3] (by decide) (Nat.le_of_ble_eq_true rfl) (fun F hr hW hl => wk_X1_typeLine F hr ht ha1 ha2 h hW va_S.rf hl)
set_option maxHeartbeats 4000000 in
set_option maxRecDepth 100000 in
theorem k_X1_typeLine {own : String} {nL : Nat} (F : FX G b own cc nL p s m args meth c) {n : Nat} {t : Nat} {a1 : Nat} {a2 : Nat} {a3 : Int32} {μ : Mm} {out : Mm} (ht : okLa t) (ha1 : okTx a1) (ha2 : okBk a2) (h : sh_X1_typeLine n t a1 a2 a3 μ = some out) {index : Nat} (hl : Cond.methodLink own index yX1_typeLine ∈ TBG) (hR : 3 + 1 ≤ R.frames ∧ 8 + (7 + 11) + 70 ≤ R.locals ∧ cells ≤ R.cells ∧ slots ≤ R.slots) (hW : WH G b μ H) (hS : va_S (fb b) s.heap H locs) (hsz : ls.size = nL) (hrest : (rest.map fun v => v.category).sum ≤ 8) (hdg : decode cc pc = .ok (.invokevirtual index, 3))
    (kk : ∀ (H1 : Heap) (locs1 : List Loc), WH G b out H1 → va_S (fb b) s.heap H1 locs1 → W p l e R s m args below meth c H1 locs1 cells slots Q (F0 m (pc + 3) ls (rest))) : W p l e R s m args below meth c H locs cells slots Q (F0 m pc ls (.int a3 :: .ref (b + a2) :: .ref (b + a1) :: .ref (b + t) :: rest)) :=
  f_callV (As := [.ref (b + a1), .ref (b + a2), .int a3]) (ci := 1) (c_X1_typeLine ht ha1 ha2 h) ⟨rfl, rfl⟩ rfl (ky_lt ht.1 (by decide)) (wF_1 ht.1) q_892 qp_27 q_9 q_893 rfl ⟨by decide +kernel, by decide +kernel, (show (parseMethodDescriptor yX1_typeLine.desc).map (fun d => d.parameters.length) = some 3 by decide +kernel)⟩ F hl hR hW hS hsz hrest rfl hdg kk
set_option maxHeartbeats 4000000 in
set_option maxRecDepth 100000 in
theorem wk_X1_typeLines_8 {n : Nat} {t : Nat} {a1 : Nat} {a2 : Nat} {a3 : Int32} {a4 : Int32} {out : Mm} (F : FX G b RX1 cX1_typeLines 6 p s m args meth c) (hr : meth.sig.returnType = none) (ht : okLa t) (ha1 : okTx a1) (ha2 : okBk a2) : ∀ (f : Nat) (x5 : Int32) (μ : Mm) (H : Heap) (locs : List Loc) (ls : Array Slot), sh_X1_typeLines_8 n t a1 a2 a3 a4 f x5 μ = some out → WH G b μ H → va_S (fb b) s.heap H locs → lv_has ls 6 [(0, .ref (b + t)), (1, .ref (b + a1)), (2, .ref (b + a2)), (4, .int a4), (5, .int x5)] → W p l e ({ frames := 4, cells := 0, slots := 0, locals := 96 } : Room) s m args below meth c H locs 0 0 (MQ below (QW G b out none) args s 0 0 (fb b)) (F0 m 8 ls []) := by
  have hx := F.1
  have hb := F.2.1
  intro f
  induction f with
  | zero =>
    intro _ _ _ _ _ h
    rw [sh_X1_typeLines_8] at h
    cases h
  | succ f ih =>
    intro x5 μ H locs ls h hW hS hl
    rw [sh_X1_typeLines_8] at h
    have hk8 := ih
    refine lv_iload hx hb dX1_typeLines_8 (lv_at hl 4 rfl) ?_
    refine lv_iload hx hb dX1_typeLines_10 (lv_at hl 3 rfl) ?_
    refine lv_icmp_ge (tgt := 29) hx hb dX1_typeLines_12 (by decide) (fun cc => ?_) (fun cc => ?_)
    · replace h := (if_pos cc).symm.trans h
      cases h
      exact r_void F hr hW hS dX1_typeLines_29
    · replace h := (if_neg cc).symm.trans h
      refine lv_aload_n hx hb dX1_typeLines_15 rfl (lv_at hl 0 rfl) ?_
      refine lv_aload_n hx hb dX1_typeLines_16 rfl (lv_at hl 1 rfl) ?_
      refine lv_aload_n hx hb dX1_typeLines_17 rfl (lv_at hl 2 rfl) ?_
      refine lv_iload hx hb dX1_typeLines_18 (lv_at hl 4 rfl) ?_
      obtain ⟨r2, qr2, h⟩ := ob h
      refine k_X1_typeLine F ht ha1 ha2 qr2 q_890 ⟨Nat.le_of_ble_eq_true rfl, Nat.le_of_ble_eq_true rfl, Nat.le_of_ble_eq_true rfl, Nat.le_of_ble_eq_true rfl⟩ hW hS hl.1 (Nat.le_of_ble_eq_true rfl) dX1_typeLines_20 (fun H locs hW hS => ?_)
      refine lv_iinc (v := (x5 + (1 : Int32))) (lv' := [(5, .int (x5 + (1 : Int32))), (0, .ref (b + t)), (1, .ref (b + a1)), (2, .ref (b + a2)), (4, .int a4)]) hx hb dX1_typeLines_23 hl (k := 4) rfl rfl (by decide) rfl (fun ls hl => ?_)
      refine lv_goto (tgt := 8) hx hb dX1_typeLines_26 (by decide) ?_
      exact hk8 _ _ _ _ _ h hW hS (lv_sub hl [1, 2, 3, 4, 0] rfl)
set_option maxHeartbeats 4000000 in
set_option maxRecDepth 100000 in
theorem wk_X1_typeLines {n : Nat} {t : Nat} {a1 : Nat} {a2 : Nat} {a3 : Int32} {a4 : Int32} {μ : Mm} {out : Mm} (F : FX G b RX1 cX1_typeLines 6 p s m args meth c) (hr : meth.sig.returnType = none) (ht : okLa t) (ha1 : okTx a1) (ha2 : okBk a2) (h : sh_X1_typeLines n t a1 a2 a3 a4 μ = some out) (hW : WH G b μ H) (hS : va_S (fb b) s.heap H locs) (hl : lv_has ls 6 [(0, .ref (b + t)), (1, .ref (b + a1)), (2, .ref (b + a2)), (3, .int a3), (4, .int a4)]) : W p l e ({ frames := 4, cells := 0, slots := 0, locals := 96 } : Room) s m args below meth c H locs 0 0 (MQ below (QW G b out none) args s 0 0 (fb b)) (F0 m 0 ls []) := by
  have hx := F.1
  have hb := F.2.1
  unfold sh_X1_typeLines at h
  refine lv_aload_n hx hb dX1_typeLines_0 rfl (lv_at hl 1 rfl) ?_
  refine lv_iconst (v := (0 : Int32)) hx hb dX1_typeLines_1 (by decide) ?_
  obtain ⟨r1, qr1, h⟩ := ob h
  refine k_X8_cut F ha1 qr1 q_889 ⟨Nat.le_of_ble_eq_true rfl, Nat.le_of_ble_eq_true rfl, Nat.le_of_ble_eq_true rfl, Nat.le_of_ble_eq_true rfl⟩ hW hS hl.1 (Nat.le_of_ble_eq_true rfl) dX1_typeLines_2 (fun H locs hW hS => ?_)
  refine lv_iload_n hx hb dX1_typeLines_5 rfl (lv_at hl 3 rfl) ?_
  refine lv_istore (lv' := [(5, .int a3), (0, .ref (b + t)), (1, .ref (b + a1)), (2, .ref (b + a2)), (3, .int a3), (4, .int a4)]) hx hb dX1_typeLines_6 hl (by decide) rfl (fun ls hl => ?_)
  exact wk_X1_typeLines_8 F hr ht ha1 ha2 n _ _ _ _ _ h hW hS (lv_sub hl [1, 2, 3, 5, 0] rfl)
set_option maxHeartbeats 4000000 in
set_option maxRecDepth 100000 in
theorem c_X1_typeLines {l : Launch} {G : Gt} {b : Nat} {n : Nat} {t : Nat} {a1 : Nat} {a2 : Nat} {a3 : Int32} {a4 : Int32} {μ : Mm} {out : Mm} (ht : okLa t) (ha1 : okTx a1) (ha2 : okBk a2) (h : sh_X1_typeLines n t a1 a2 a3 a4 μ = some out) : Met l yX1_typeLines (wU (Cond.code yX1_typeLines cX1_typeLines 6 none)) ({ frames := 4, cells := 0, slots := 0, locals := 96 } : Room) (PcW G b μ [.ref (b + t), .ref (b + a1), .ref (b + a2), .int a3, .int a4]) (QW G b out none) 0 0 (fb b) :=
  met_of [.ref (b + t), .ref (b + a1), .ref (b + a2), .int a3, .int a4] (by decide) (Nat.le_of_ble_eq_true rfl) (fun F hr hW hl => wk_X1_typeLines F hr ht ha1 ha2 h hW va_S.rf hl)
set_option maxHeartbeats 4000000 in
set_option maxRecDepth 100000 in
theorem k_X1_typeLines {own : String} {nL : Nat} (F : FX G b own cc nL p s m args meth c) {n : Nat} {t : Nat} {a1 : Nat} {a2 : Nat} {a3 : Int32} {a4 : Int32} {μ : Mm} {out : Mm} (ht : okLa t) (ha1 : okTx a1) (ha2 : okBk a2) (h : sh_X1_typeLines n t a1 a2 a3 a4 μ = some out) {index : Nat} (hl : Cond.methodLink own index yX1_typeLines ∈ TBG) (hR : 4 + 1 ≤ R.frames ∧ 8 + (6 + 11) + 96 ≤ R.locals ∧ cells ≤ R.cells ∧ slots ≤ R.slots) (hW : WH G b μ H) (hS : va_S (fb b) s.heap H locs) (hsz : ls.size = nL) (hrest : (rest.map fun v => v.category).sum ≤ 8) (hdg : decode cc pc = .ok (.invokevirtual index, 3))
    (kk : ∀ (H1 : Heap) (locs1 : List Loc), WH G b out H1 → va_S (fb b) s.heap H1 locs1 → W p l e R s m args below meth c H1 locs1 cells slots Q (F0 m (pc + 3) ls (rest))) : W p l e R s m args below meth c H locs cells slots Q (F0 m pc ls (.int a4 :: .int a3 :: .ref (b + a2) :: .ref (b + a1) :: .ref (b + t) :: rest)) :=
  f_callV (As := [.ref (b + a1), .ref (b + a2), .int a3, .int a4]) (ci := 1) (c_X1_typeLines ht ha1 ha2 h) ⟨rfl, rfl⟩ rfl (ky_lt ht.1 (by decide)) (wF_1 ht.1) q_886 q_887 q_9 q_888 rfl ⟨by decide +kernel, by decide +kernel, (show (parseMethodDescriptor yX1_typeLines.desc).map (fun d => d.parameters.length) = some 4 by decide +kernel)⟩ F hl hR hW hS hsz hrest rfl hdg kk
end G13
