section G152
variable {p : Program} {l : Launch} {e : Env} {R : Room} {s : State} {m : MethodId} {args : Array Value} {below : List Frame} {meth : Method} {c : Code} {H : Heap} {locs : List Loc} {cells slots : Nat} {Q : State → Prop}
variable {cc : ByteArray} {pc : Nat} {ls : Array Slot} {rest : List Value} {G : Gt} {b : Nat}

set_option maxHeartbeats 4000000 in
set_option maxRecDepth 100000 in
theorem wk_X12_bookPage {n : Nat} {a1 : Int32} {μ : Mm} {out : (Int32 × Mm)} (F : FX (fg G) b RX12 cX12_bookPage 2 p s m args meth c) (hr : meth.sig.returnType = some .int) (h : sh_X12_bookPage n a1 μ = some out) (hW : WH (fg G) b μ H) (hS : va_S (fb b) s.heap H locs) (hl : lv_has ls 2 [(0, .ref (b + 306)), (1, .int a1)]) : W p l e ({ frames := 10, cells := 0, slots := 0, locals := 226 } : Room) s m args below meth c H locs 0 0 (MQ below (QW (fg G) b out.2 (some (.int out.1))) args s 0 0 (fb b)) (F0 m 0 ls []) := by
  have hx := F.1
  have hb := F.2.1
  unfold sh_X12_bookPage at h
  refine lv_aload_n hx hb dX12_bookPage_0 rfl (lv_at hl 0 rfl) ?_
  refine lv_iload_n hx hb dX12_bookPage_1 rfl (lv_at hl 1 rfl) ?_
  obtain ⟨r1, qr1, h⟩ := ob h
  refine k_X12_asks F qr1 q_1893 ⟨Nat.le_of_ble_eq_true rfl, Nat.le_of_ble_eq_true rfl, Nat.le_of_ble_eq_true rfl, Nat.le_of_ble_eq_true rfl⟩ hW hS hl.1 (Nat.le_of_ble_eq_true rfl) dX12_bookPage_2 (fun H locs hW hS => ?_)
  refine lv_if_eq (tgt := 16) hx hb dX12_bookPage_5 (by decide) (fun cc => ?_) (fun cc => ?_)
  · replace h := (if_pos cc).symm.trans h
    refine lv_iconst (v := (0 : Int32)) hx hb dX12_bookPage_16 (by decide) ?_
    cases h
    exact r_int F hr hW hS dX12_bookPage_17
  · replace h := (if_neg cc).symm.trans h
    refine lv_aload_n hx hb dX12_bookPage_8 rfl (lv_at hl 0 rfl) ?_
    refine lv_iload_n hx hb dX12_bookPage_9 rfl (lv_at hl 1 rfl) ?_
    obtain ⟨r2, qr2, h⟩ := ob h
    refine k_X12_bookPageOf F qr2 q_1901 ⟨Nat.le_of_ble_eq_true rfl, Nat.le_of_ble_eq_true rfl, Nat.le_of_ble_eq_true rfl, Nat.le_of_ble_eq_true rfl⟩ hW hS hl.1 (Nat.le_of_ble_eq_true rfl) dX12_bookPage_10 (fun H locs hW hS => ?_)
    refine lv_goto (tgt := 17) hx hb dX12_bookPage_13 (by decide) ?_
    cases h
    exact r_int F hr hW hS dX12_bookPage_17
set_option maxHeartbeats 4000000 in
set_option maxRecDepth 100000 in
theorem c_X12_bookPage {l : Launch} {G : Gt} {b : Nat} {n : Nat} {a1 : Int32} {μ : Mm} {out : (Int32 × Mm)} (h : sh_X12_bookPage n a1 μ = some out) : Met l yX12_bookPage (wU (Cond.code yX12_bookPage cX12_bookPage 2 (some .int))) ({ frames := 10, cells := 0, slots := 0, locals := 226 } : Room) (PcW (fg G) b μ [.ref (b + 306), .int a1]) (QW (fg G) b out.2 (some (.int out.1))) 0 0 (fb b) :=
  met_of [.ref (b + 306), .int a1] (by decide) (Nat.le_of_ble_eq_true rfl) (fun F hr hW hl => wk_X12_bookPage F hr h hW va_S.rf hl)
set_option maxHeartbeats 4000000 in
set_option maxRecDepth 100000 in
theorem k_X12_bookPage {own : String} {nL : Nat} (F : FX (fg G) b own cc nL p s m args meth c) {n : Nat} {a1 : Int32} {μ : Mm} {out : (Int32 × Mm)} (h : sh_X12_bookPage n a1 μ = some out) {index : Nat} (hl : Cond.methodLink own index yX12_bookPage ∈ TBG) (hR : 10 + 1 ≤ R.frames ∧ 8 + (2 + 11) + 226 ≤ R.locals ∧ cells ≤ R.cells ∧ slots ≤ R.slots) (hW : WH (fg G) b μ H) (hS : va_S (fb b) s.heap H locs) (hsz : ls.size = nL) (hrest : (rest.map fun v => v.category).sum ≤ 8) (hdg : decode cc pc = .ok (.invokevirtual index, 3))
    (kk : ∀ (H1 : Heap) (locs1 : List Loc), WH (fg G) b out.2 H1 → va_S (fb b) s.heap H1 locs1 → W p l e R s m args below meth c H1 locs1 cells slots Q (F0 m (pc + 3) ls (.int out.1 :: rest))) : W p l e R s m args below meth c H locs cells slots Q (F0 m pc ls (.int a1 :: .ref (b + 306) :: rest)) :=
  f_callV (As := [.int a1]) (ci := 12) (c_X12_bookPage h) ⟨rfl, rfl⟩ rfl (ky_lm kyf_306 (by decide)) (wF_12 kyf_306) q_1898 q_1899 q_14 q_1900 rfl ⟨by decide +kernel, by decide +kernel, (show (parseMethodDescriptor yX12_bookPage.desc).map (fun d => d.parameters.length) = some 1 by decide +kernel)⟩ F hl hR hW hS hsz hrest rfl hdg kk
set_option maxHeartbeats 4000000 in
set_option maxRecDepth 100000 in
theorem wk_X12_lineOnPage {n : Nat} {a1 : Int32} {μ : Mm} {out : (Int32 × Mm)} (F : FX (fg G) b RX12 cX12_lineOnPage 2 p s m args meth c) (hr : meth.sig.returnType = some .int) (h : sh_X12_lineOnPage n a1 μ = some out) (hW : WH (fg G) b μ H) (hS : va_S (fb b) s.heap H locs) (hl : lv_has ls 2 [(0, .ref (b + 306)), (1, .int a1)]) : W p l e ({ frames := 10, cells := 0, slots := 0, locals := 226 } : Room) s m args below meth c H locs 0 0 (MQ below (QW (fg G) b out.2 (some (.int out.1))) args s 0 0 (fb b)) (F0 m 0 ls []) := by
  have hx := F.1
  have hb := F.2.1
  unfold sh_X12_lineOnPage at h
  refine lv_aload_n hx hb dX12_lineOnPage_0 rfl (lv_at hl 0 rfl) ?_
  refine lv_iload_n hx hb dX12_lineOnPage_1 rfl (lv_at hl 1 rfl) ?_
  obtain ⟨r1, qr1, h⟩ := ob h
  refine k_X12_asks F qr1 q_1893 ⟨Nat.le_of_ble_eq_true rfl, Nat.le_of_ble_eq_true rfl, Nat.le_of_ble_eq_true rfl, Nat.le_of_ble_eq_true rfl⟩ hW hS hl.1 (Nat.le_of_ble_eq_true rfl) dX12_lineOnPage_2 (fun H locs hW hS => ?_)
  refine lv_if_eq (tgt := 17) hx hb dX12_lineOnPage_5 (by decide) (fun cc => ?_) (fun cc => ?_)
  · replace h := (if_pos cc).symm.trans h
    refine lv_iconst (v := (0 : Int32)) hx hb dX12_lineOnPage_17 (by decide) ?_
    cases h
    exact r_int F hr hW hS dX12_lineOnPage_18
  · replace h := (if_neg cc).symm.trans h
    refine lv_aload_n hx hb dX12_lineOnPage_8 rfl (lv_at hl 0 rfl) ?_
    refine fl_get12 (v := .ref (b + 315)) kyf_306 F hW 22 (by decide) q_1493 rfl rfl dX12_lineOnPage_9 ?_
    refine lv_iload_n hx hb dX12_lineOnPage_12 rfl (lv_at hl 1 rfl) ?_
    obtain ⟨v2, qv2, h⟩ := ob h
    refine fm_iald kyf_315 F hW qv2 dX12_lineOnPage_13 ?_
    refine lv_goto (tgt := 18) hx hb dX12_lineOnPage_14 (by decide) ?_
    cases h
    exact r_int F hr hW hS dX12_lineOnPage_18
set_option maxHeartbeats 4000000 in
set_option maxRecDepth 100000 in
theorem c_X12_lineOnPage {l : Launch} {G : Gt} {b : Nat} {n : Nat} {a1 : Int32} {μ : Mm} {out : (Int32 × Mm)} (h : sh_X12_lineOnPage n a1 μ = some out) : Met l yX12_lineOnPage (wU (Cond.code yX12_lineOnPage cX12_lineOnPage 2 (some .int))) ({ frames := 10, cells := 0, slots := 0, locals := 226 } : Room) (PcW (fg G) b μ [.ref (b + 306), .int a1]) (QW (fg G) b out.2 (some (.int out.1))) 0 0 (fb b) :=
  met_of [.ref (b + 306), .int a1] (by decide) (Nat.le_of_ble_eq_true rfl) (fun F hr hW hl => wk_X12_lineOnPage F hr h hW va_S.rf hl)
set_option maxHeartbeats 4000000 in
set_option maxRecDepth 100000 in
theorem k_X12_lineOnPage {own : String} {nL : Nat} (F : FX (fg G) b own cc nL p s m args meth c) {n : Nat} {a1 : Int32} {μ : Mm} {out : (Int32 × Mm)} (h : sh_X12_lineOnPage n a1 μ = some out) {index : Nat} (hl : Cond.methodLink own index yX12_lineOnPage ∈ TBG) (hR : 10 + 1 ≤ R.frames ∧ 8 + (2 + 11) + 226 ≤ R.locals ∧ cells ≤ R.cells ∧ slots ≤ R.slots) (hW : WH (fg G) b μ H) (hS : va_S (fb b) s.heap H locs) (hsz : ls.size = nL) (hrest : (rest.map fun v => v.category).sum ≤ 8) (hdg : decode cc pc = .ok (.invokevirtual index, 3))
    (kk : ∀ (H1 : Heap) (locs1 : List Loc), WH (fg G) b out.2 H1 → va_S (fb b) s.heap H1 locs1 → W p l e R s m args below meth c H1 locs1 cells slots Q (F0 m (pc + 3) ls (.int out.1 :: rest))) : W p l e R s m args below meth c H locs cells slots Q (F0 m pc ls (.int a1 :: .ref (b + 306) :: rest)) :=
  f_callV (As := [.int a1]) (ci := 12) (c_X12_lineOnPage h) ⟨rfl, rfl⟩ rfl (ky_lm kyf_306 (by decide)) (wF_12 kyf_306) q_1906 q_1907 q_14 q_1908 rfl ⟨by decide +kernel, by decide +kernel, (show (parseMethodDescriptor yX12_lineOnPage.desc).map (fun d => d.parameters.length) = some 1 by decide +kernel)⟩ F hl hR hW hS hsz hrest rfl hdg kk
set_option maxHeartbeats 4000000 in
set_option maxRecDepth 100000 in
theorem wk_X12_numberWidth {n : Nat} {a1 : Int32} {μ : Mm} {out : (Int32 × Mm)} (F : FX (fg G) b RX12 cX12_numberWidth 2 p s m args meth c) (hr : meth.sig.returnType = some .int) (h : sh_X12_numberWidth n a1 μ = some out) (hW : WH (fg G) b μ H) (hS : va_S (fb b) s.heap H locs) (hl : lv_has ls 2 [(0, .ref (b + 306)), (1, .int a1)]) : W p l e ({ frames := 10, cells := 0, slots := 0, locals := 226 } : Room) s m args below meth c H locs 0 0 (MQ below (QW (fg G) b out.2 (some (.int out.1))) args s 0 0 (fb b)) (F0 m 0 ls []) := by
  have hx := F.1
  have hb := F.2.1
  unfold sh_X12_numberWidth at h
  refine lv_aload_n hx hb dX12_numberWidth_0 rfl (lv_at hl 0 rfl) ?_
  refine lv_iload_n hx hb dX12_numberWidth_1 rfl (lv_at hl 1 rfl) ?_
  obtain ⟨r1, qr1, h⟩ := ob h
  refine k_X12_asks F qr1 q_1893 ⟨Nat.le_of_ble_eq_true rfl, Nat.le_of_ble_eq_true rfl, Nat.le_of_ble_eq_true rfl, Nat.le_of_ble_eq_true rfl⟩ hW hS hl.1 (Nat.le_of_ble_eq_true rfl) dX12_numberWidth_2 (fun H locs hW hS => ?_)
  refine lv_if_eq (tgt := 16) hx hb dX12_numberWidth_5 (by decide) (fun cc => ?_) (fun cc => ?_)
  · replace h := (if_pos cc).symm.trans h
    refine lv_iconst (v := (0 : Int32)) hx hb dX12_numberWidth_16 (by decide) ?_
    cases h
    exact r_int F hr hW hS dX12_numberWidth_17
  · replace h := (if_neg cc).symm.trans h
    refine lv_aload_n hx hb dX12_numberWidth_8 rfl (lv_at hl 0 rfl) ?_
    refine lv_iload_n hx hb dX12_numberWidth_9 rfl (lv_at hl 1 rfl) ?_
    obtain ⟨r2, qr2, h⟩ := ob h
    refine k_X12_printedWidth F qr2 q_1792 ⟨Nat.le_of_ble_eq_true rfl, Nat.le_of_ble_eq_true rfl, Nat.le_of_ble_eq_true rfl, Nat.le_of_ble_eq_true rfl⟩ hW hS hl.1 (Nat.le_of_ble_eq_true rfl) dX12_numberWidth_10 (fun H locs hW hS => ?_)
    refine lv_goto (tgt := 17) hx hb dX12_numberWidth_13 (by decide) ?_
    cases h
    exact r_int F hr hW hS dX12_numberWidth_17
set_option maxHeartbeats 4000000 in
set_option maxRecDepth 100000 in
theorem c_X12_numberWidth {l : Launch} {G : Gt} {b : Nat} {n : Nat} {a1 : Int32} {μ : Mm} {out : (Int32 × Mm)} (h : sh_X12_numberWidth n a1 μ = some out) : Met l yX12_numberWidth (wU (Cond.code yX12_numberWidth cX12_numberWidth 2 (some .int))) ({ frames := 10, cells := 0, slots := 0, locals := 226 } : Room) (PcW (fg G) b μ [.ref (b + 306), .int a1]) (QW (fg G) b out.2 (some (.int out.1))) 0 0 (fb b) :=
  met_of [.ref (b + 306), .int a1] (by decide) (Nat.le_of_ble_eq_true rfl) (fun F hr hW hl => wk_X12_numberWidth F hr h hW va_S.rf hl)
set_option maxHeartbeats 4000000 in
set_option maxRecDepth 100000 in
theorem k_X12_numberWidth {own : String} {nL : Nat} (F : FX (fg G) b own cc nL p s m args meth c) {n : Nat} {a1 : Int32} {μ : Mm} {out : (Int32 × Mm)} (h : sh_X12_numberWidth n a1 μ = some out) {index : Nat} (hl : Cond.methodLink own index yX12_numberWidth ∈ TBG) (hR : 10 + 1 ≤ R.frames ∧ 8 + (2 + 11) + 226 ≤ R.locals ∧ cells ≤ R.cells ∧ slots ≤ R.slots) (hW : WH (fg G) b μ H) (hS : va_S (fb b) s.heap H locs) (hsz : ls.size = nL) (hrest : (rest.map fun v => v.category).sum ≤ 8) (hdg : decode cc pc = .ok (.invokevirtual index, 3))
    (kk : ∀ (H1 : Heap) (locs1 : List Loc), WH (fg G) b out.2 H1 → va_S (fb b) s.heap H1 locs1 → W p l e R s m args below meth c H1 locs1 cells slots Q (F0 m (pc + 3) ls (.int out.1 :: rest))) : W p l e R s m args below meth c H locs cells slots Q (F0 m pc ls (.int a1 :: .ref (b + 306) :: rest)) :=
  f_callV (As := [.int a1]) (ci := 12) (c_X12_numberWidth h) ⟨rfl, rfl⟩ rfl (ky_lm kyf_306 (by decide)) (wF_12 kyf_306) q_1910 q_1911 q_14 q_1912 rfl ⟨by decide +kernel, by decide +kernel, (show (parseMethodDescriptor yX12_numberWidth.desc).map (fun d => d.parameters.length) = some 1 by decide +kernel)⟩ F hl hR hW hS hsz hrest rfl hdg kk
set_option maxHeartbeats 4000000 in
set_option maxRecDepth 100000 in
theorem wk_X12_findPage_22 {n : Nat} {a1 : Int32} {a2 : Int32} {out : (Int32 × Mm)} (F : FX (fg G) b RX12 cX12_findPage 4 p s m args meth c) (hr : meth.sig.returnType = some .int) : ∀ (f : Nat) (x3 : Int32) (μ : Mm) (H : Heap) (locs : List Loc) (ls : Array Slot), sh_X12_findPage_22 n a1 a2 f x3 μ = some out → WH (fg G) b μ H → va_S (fb b) s.heap H locs → lv_has ls 4 [(0, .ref (b + 306)), (1, .int a1), (2, .int a2), (3, .int x3)] → W p l e ({ frames := 9, cells := 0, slots := 0, locals := 205 } : Room) s m args below meth c H locs 0 0 (MQ below (QW (fg G) b out.2 (some (.int out.1))) args s 0 0 (fb b)) (F0 m 22 ls []) := by
  have hx := F.1
  have hb := F.2.1
  intro f
  induction f with
  | zero =>
    intro _ _ _ _ _ h
    rw [sh_X12_findPage_22] at h
    cases h
  | succ f ih =>
    intro x3 μ H locs ls h hW hS hl
    rw [sh_X12_findPage_22] at h
    have hk22 := ih
    refine lv_iload_n hx hb dX12_findPage_22 rfl (lv_at hl 3 rfl) ?_
    refine lv_aload_n hx hb dX12_findPage_23 rfl (lv_at hl 0 rfl) ?_
    refine fl_get12 (v := .ref (b + 307)) kyf_306 F hW 1 (by decide) q_1472 rfl rfl dX12_findPage_24 ?_
    refine lv_bipush (v := (9 : Int32)) hx hb dX12_findPage_27 (by decide) ?_
    obtain ⟨v4, qv4, h⟩ := ob h
    refine fm_iald kyf_307 F hW qv4 dX12_findPage_29 ?_
    refine lv_icmp_ge (tgt := 61) hx hb dX12_findPage_30 (by decide) (fun cc => ?_) (fun cc => ?_)
    · replace h := (if_pos cc).symm.trans h
      refine lv_iconst (v := (-1 : Int32)) hx hb dX12_findPage_61 (by decide) ?_
      cases h
      exact r_int F hr hW hS dX12_findPage_62
    · replace h := (if_neg cc).symm.trans h
      refine lv_aload_n hx hb dX12_findPage_33 rfl (lv_at hl 0 rfl) ?_
      refine lv_iload_n hx hb dX12_findPage_34 rfl (lv_at hl 3 rfl) ?_
      refine lv_iconst (v := (2 : Int32)) hx hb dX12_findPage_35 (by decide) ?_
      obtain ⟨r5, qr5, h⟩ := ob h
      refine k_X12_of F qr5 q_1735 ⟨Nat.le_of_ble_eq_true rfl, Nat.le_of_ble_eq_true rfl, Nat.le_of_ble_eq_true rfl, Nat.le_of_ble_eq_true rfl⟩ hW hS hl.1 (Nat.le_of_ble_eq_true rfl) dX12_findPage_36 (fun H locs hW hS => ?_)
      refine lv_iload_n hx hb dX12_findPage_39 rfl (lv_at hl 1 rfl) ?_
      refine lv_icmp_ne (tgt := 55) hx hb dX12_findPage_40 (by decide) (fun cc => ?_) (fun cc => ?_)
      · replace h := (if_neg cc).symm.trans h
        refine lv_iinc (v := (x3 + (1 : Int32))) (lv' := [(3, .int (x3 + (1 : Int32))), (0, .ref (b + 306)), (1, .int a1), (2, .int a2)]) hx hb dX12_findPage_55 hl (k := 3) rfl rfl (by decide) rfl (fun ls hl => ?_)
        refine lv_goto (tgt := 22) hx hb dX12_findPage_58 (by decide) ?_
        exact hk22 _ _ _ _ _ h hW hS (lv_sub hl [1, 2, 3, 0] rfl)
      · replace h := (if_pos cc).symm.trans h
        refine lv_aload_n hx hb dX12_findPage_43 rfl (lv_at hl 0 rfl) ?_
        refine fl_get12 (v := .ref (b + 314)) kyf_306 F hW 21 (by decide) q_1492 rfl rfl dX12_findPage_44 ?_
        refine lv_iload_n hx hb dX12_findPage_47 rfl (lv_at hl 3 rfl) ?_
        obtain ⟨v6, qv6, h⟩ := ob h
        refine fm_iald kyf_314 F hW qv6 dX12_findPage_48 ?_
        refine lv_iload_n hx hb dX12_findPage_49 rfl (lv_at hl 2 rfl) ?_
        refine lv_icmp_ne (tgt := 55) hx hb dX12_findPage_50 (by decide) (fun cc => ?_) (fun cc => ?_)
        · replace h := (if_neg cc).symm.trans h
          refine lv_iinc (v := (x3 + (1 : Int32))) (lv' := [(3, .int (x3 + (1 : Int32))), (0, .ref (b + 306)), (1, .int a1), (2, .int a2)]) hx hb dX12_findPage_55 hl (k := 3) rfl rfl (by decide) rfl (fun ls hl => ?_)
          refine lv_goto (tgt := 22) hx hb dX12_findPage_58 (by decide) ?_
          exact hk22 _ _ _ _ _ h hW hS (lv_sub hl [1, 2, 3, 0] rfl)
        · replace h := (if_pos cc).symm.trans h
          refine lv_iload_n hx hb dX12_findPage_53 rfl (lv_at hl 3 rfl) ?_
          cases h
          exact r_int F hr hW hS dX12_findPage_54
set_option maxHeartbeats 4000000 in
set_option maxRecDepth 100000 in
theorem wk_X12_findPage {n : Nat} {a1 : Int32} {a2 : Int32} {μ : Mm} {out : (Int32 × Mm)} (F : FX (fg G) b RX12 cX12_findPage 4 p s m args meth c) (hr : meth.sig.returnType = some .int) (h : sh_X12_findPage n a1 a2 μ = some out) (hW : WH (fg G) b μ H) (hS : va_S (fb b) s.heap H locs) (hl : lv_has ls 4 [(0, .ref (b + 306)), (1, .int a1), (2, .int a2)]) : W p l e ({ frames := 9, cells := 0, slots := 0, locals := 205 } : Room) s m args below meth c H locs 0 0 (MQ below (QW (fg G) b out.2 (some (.int out.1))) args s 0 0 (fb b)) (F0 m 0 ls []) := by
  have hx := F.1
  have hb := F.2.1
  unfold sh_X12_findPage at h
  refine lv_aload_n hx hb dX12_findPage_0 rfl (lv_at hl 0 rfl) ?_
  refine lv_iload_n hx hb dX12_findPage_1 rfl (lv_at hl 1 rfl) ?_
  refine lv_i2l hx hb dX12_findPage_2 rfl ?_
  refine lv_lconst (v := (0 : Int64)) hx hb dX12_findPage_3 (by decide) ?_
  refine lv_lconst (v := (1 : Int64)) hx hb dX12_findPage_4 (by decide) ?_
  obtain ⟨r1, qr1, h⟩ := ob h
  refine k_X12_in F qr1 q_1643 ⟨Nat.le_of_ble_eq_true rfl, Nat.le_of_ble_eq_true rfl, Nat.le_of_ble_eq_true rfl, Nat.le_of_ble_eq_true rfl⟩ hW hS hl.1 (Nat.le_of_ble_eq_true rfl) dX12_findPage_5 (fun H locs hW hS => ?_)
  obtain ⟨r2, qr2, h⟩ := ob h
  refine k_X12_passes F qr2 q_1627 ⟨Nat.le_of_ble_eq_true rfl, Nat.le_of_ble_eq_true rfl, Nat.le_of_ble_eq_true rfl, Nat.le_of_ble_eq_true rfl⟩ hW hS hl.1 (Nat.le_of_ble_eq_true rfl) dX12_findPage_8 (fun H locs hW hS => ?_)
  refine lv_if_ne (tgt := 16) hx hb dX12_findPage_11 (by decide) (fun cc => ?_) (fun cc => ?_)
  · replace h := (if_neg cc).symm.trans h
    refine lv_aload_n hx hb dX12_findPage_16 rfl (lv_at hl 0 rfl) ?_
    obtain ⟨r3, qr3, h⟩ := ob h
    refine k_X12_lay F qr3 q_1764 ⟨Nat.le_of_ble_eq_true rfl, Nat.le_of_ble_eq_true rfl, Nat.le_of_ble_eq_true rfl, Nat.le_of_ble_eq_true rfl⟩ hW hS hl.1 (Nat.le_of_ble_eq_true rfl) dX12_findPage_17 (fun H locs hW hS => ?_)
    refine lv_iconst (v := (0 : Int32)) hx hb dX12_findPage_20 (by decide) ?_
    refine lv_istore_n (lv' := [(3, .int (0 : Int32)), (0, .ref (b + 306)), (1, .int a1), (2, .int a2)]) hx hb dX12_findPage_21 rfl hl (by decide) rfl (fun ls hl => ?_)
    exact wk_X12_findPage_22 F hr n _ _ _ _ _ h hW hS (lv_sub hl [1, 2, 3, 0] rfl)
  · replace h := (if_pos cc).symm.trans h
    refine lv_iconst (v := (0 : Int32)) hx hb dX12_findPage_14 (by decide) ?_
    cases h
    exact r_int F hr hW hS dX12_findPage_15
set_option maxHeartbeats 4000000 in
set_option maxRecDepth 100000 in
theorem c_X12_findPage {l : Launch} {G : Gt} {b : Nat} {n : Nat} {a1 : Int32} {a2 : Int32} {μ : Mm} {out : (Int32 × Mm)} (h : sh_X12_findPage n a1 a2 μ = some out) : Met l yX12_findPage (wU (Cond.code yX12_findPage cX12_findPage 4 (some .int))) ({ frames := 9, cells := 0, slots := 0, locals := 205 } : Room) (PcW (fg G) b μ [.ref (b + 306), .int a1, .int a2]) (QW (fg G) b out.2 (some (.int out.1))) 0 0 (fb b) :=
  met_of [.ref (b + 306), .int a1, .int a2] (by decide) (Nat.le_of_ble_eq_true rfl) (fun F hr hW hl => wk_X12_findPage F hr h hW va_S.rf hl)
set_option maxHeartbeats 4000000 in
set_option maxRecDepth 100000 in
theorem k_X12_findPage {own : String} {nL : Nat} (F : FX (fg G) b own cc nL p s m args meth c) {n : Nat} {a1 : Int32} {a2 : Int32} {μ : Mm} {out : (Int32 × Mm)} (h : sh_X12_findPage n a1 a2 μ = some out) {index : Nat} (hl : Cond.methodLink own index yX12_findPage ∈ TBG) (hR : 9 + 1 ≤ R.frames ∧ 8 + (4 + 11) + 205 ≤ R.locals ∧ cells ≤ R.cells ∧ slots ≤ R.slots) (hW : WH (fg G) b μ H) (hS : va_S (fb b) s.heap H locs) (hsz : ls.size = nL) (hrest : (rest.map fun v => v.category).sum ≤ 8) (hdg : decode cc pc = .ok (.invokevirtual index, 3))
    (kk : ∀ (H1 : Heap) (locs1 : List Loc), WH (fg G) b out.2 H1 → va_S (fb b) s.heap H1 locs1 → W p l e R s m args below meth c H1 locs1 cells slots Q (F0 m (pc + 3) ls (.int out.1 :: rest))) : W p l e R s m args below meth c H locs cells slots Q (F0 m pc ls (.int a2 :: .int a1 :: .ref (b + 306) :: rest)) :=
  f_callV (As := [.int a1, .int a2]) (ci := 12) (c_X12_findPage h) ⟨rfl, rfl⟩ rfl (ky_lm kyf_306 (by decide)) (wF_12 kyf_306) q_1914 q_1915 q_14 q_1916 rfl ⟨by decide +kernel, by decide +kernel, (show (parseMethodDescriptor yX12_findPage.desc).map (fun d => d.parameters.length) = some 2 by decide +kernel)⟩ F hl hR hW hS hsz hrest rfl hdg kk
set_option maxHeartbeats 4000000 in
set_option maxRecDepth 100000 in
theorem wk_X12_sectionAt_28 {n : Nat} {a1 : Int32} {out : (Int32 × Mm)} (F : FX (fg G) b RX12 cX12_sectionAt 4 p s m args meth c) (hr : meth.sig.returnType = some .int) : ∀ (f : Nat) (x2 : Int32) (x3 : Int32) (μ : Mm) (H : Heap) (locs : List Loc) (ls : Array Slot), sh_X12_sectionAt_28 n a1 f x2 x3 μ = some out → WH (fg G) b μ H → va_S (fb b) s.heap H locs → lv_has ls 4 [(0, .ref (b + 306)), (1, .int a1), (2, .int x2), (3, .int x3)] → W p l e ({ frames := 9, cells := 0, slots := 0, locals := 205 } : Room) s m args below meth c H locs 0 0 (MQ below (QW (fg G) b out.2 (some (.int out.1))) args s 0 0 (fb b)) (F0 m 28 ls []) := by
  have hx := F.1
  have hb := F.2.1
  intro f
  induction f with
  | zero =>
    intro _ _ _ _ _ _ h
    rw [sh_X12_sectionAt_28] at h
    cases h
  | succ f ih =>
    intro x2 x3 μ H locs ls h hW hS hl
    rw [sh_X12_sectionAt_28] at h
    have hk28 := ih
    refine lv_iload_n hx hb dX12_sectionAt_28 rfl (lv_at hl 3 rfl) ?_
    refine lv_aload_n hx hb dX12_sectionAt_29 rfl (lv_at hl 0 rfl) ?_
    refine fl_get12 (v := .ref (b + 307)) kyf_306 F hW 1 (by decide) q_1472 rfl rfl dX12_sectionAt_30 ?_
    refine lv_bipush (v := (9 : Int32)) hx hb dX12_sectionAt_33 (by decide) ?_
    obtain ⟨v4, qv4, h⟩ := ob h
    refine fm_iald kyf_307 F hW qv4 dX12_sectionAt_35 ?_
    refine lv_icmp_ge (tgt := 60) hx hb dX12_sectionAt_36 (by decide) (fun cc => ?_) (fun cc => ?_)
    · replace h := (if_pos cc).symm.trans h
      refine lv_iload_n hx hb dX12_sectionAt_60 rfl (lv_at hl 2 rfl) ?_
      cases h
      exact r_int F hr hW hS dX12_sectionAt_61
    · replace h := (if_neg cc).symm.trans h
      refine lv_aload_n hx hb dX12_sectionAt_39 rfl (lv_at hl 0 rfl) ?_
      refine lv_iload_n hx hb dX12_sectionAt_40 rfl (lv_at hl 3 rfl) ?_
      obtain ⟨r5, qr5, h⟩ := ob h
      refine k_X12_bookPageOf F qr5 q_1901 ⟨Nat.le_of_ble_eq_true rfl, Nat.le_of_ble_eq_true rfl, Nat.le_of_ble_eq_true rfl, Nat.le_of_ble_eq_true rfl⟩ hW hS hl.1 (Nat.le_of_ble_eq_true rfl) dX12_sectionAt_41 (fun H locs hW hS => ?_)
      refine lv_iload_n hx hb dX12_sectionAt_44 rfl (lv_at hl 1 rfl) ?_
      refine lv_icmp_gt (tgt := 52) hx hb dX12_sectionAt_45 (by decide) (fun cc => ?_) (fun cc => ?_)
      · replace h := (if_pos cc).symm.trans h
        refine lv_iload_n hx hb dX12_sectionAt_52 rfl (lv_at hl 2 rfl) ?_
        refine lv_istore_n (lv' := [(2, .int x2), (0, .ref (b + 306)), (1, .int a1), (3, .int x3)]) hx hb dX12_sectionAt_53 rfl hl (by decide) rfl (fun ls hl => ?_)
        refine lv_iinc (v := (x3 + (1 : Int32))) (lv' := [(3, .int (x3 + (1 : Int32))), (2, .int x2), (0, .ref (b + 306)), (1, .int a1)]) hx hb dX12_sectionAt_54 hl (k := 3) rfl rfl (by decide) rfl (fun ls hl => ?_)
        refine lv_goto (tgt := 28) hx hb dX12_sectionAt_57 (by decide) ?_
        exact hk28 _ _ _ _ _ _ h hW hS (lv_sub hl [2, 3, 1, 0] rfl)
      · replace h := (if_neg cc).symm.trans h
        refine lv_iload_n hx hb dX12_sectionAt_48 rfl (lv_at hl 3 rfl) ?_
        refine lv_goto (tgt := 53) hx hb dX12_sectionAt_49 (by decide) ?_
        refine lv_istore_n (lv' := [(2, .int x3), (0, .ref (b + 306)), (1, .int a1), (3, .int x3)]) hx hb dX12_sectionAt_53 rfl hl (by decide) rfl (fun ls hl => ?_)
        refine lv_iinc (v := (x3 + (1 : Int32))) (lv' := [(3, .int (x3 + (1 : Int32))), (2, .int x3), (0, .ref (b + 306)), (1, .int a1)]) hx hb dX12_sectionAt_54 hl (k := 3) rfl rfl (by decide) rfl (fun ls hl => ?_)
        refine lv_goto (tgt := 28) hx hb dX12_sectionAt_57 (by decide) ?_
        exact hk28 _ _ _ _ _ _ h hW hS (lv_sub hl [2, 3, 1, 0] rfl)
set_option maxHeartbeats 4000000 in
set_option maxRecDepth 100000 in
theorem wk_X12_sectionAt {n : Nat} {a1 : Int32} {μ : Mm} {out : (Int32 × Mm)} (F : FX (fg G) b RX12 cX12_sectionAt 4 p s m args meth c) (hr : meth.sig.returnType = some .int) (h : sh_X12_sectionAt n a1 μ = some out) (hW : WH (fg G) b μ H) (hS : va_S (fb b) s.heap H locs) (hl : lv_has ls 4 [(0, .ref (b + 306)), (1, .int a1)]) : W p l e ({ frames := 9, cells := 0, slots := 0, locals := 205 } : Room) s m args below meth c H locs 0 0 (MQ below (QW (fg G) b out.2 (some (.int out.1))) args s 0 0 (fb b)) (F0 m 0 ls []) := by
  have hx := F.1
  have hb := F.2.1
  unfold sh_X12_sectionAt at h
  refine lv_aload_n hx hb dX12_sectionAt_0 rfl (lv_at hl 0 rfl) ?_
  obtain ⟨r1, qr1, h⟩ := ob h
  refine k_X12_lay F qr1 q_1764 ⟨Nat.le_of_ble_eq_true rfl, Nat.le_of_ble_eq_true rfl, Nat.le_of_ble_eq_true rfl, Nat.le_of_ble_eq_true rfl⟩ hW hS hl.1 (Nat.le_of_ble_eq_true rfl) dX12_sectionAt_1 (fun H locs hW hS => ?_)
  refine lv_aload_n hx hb dX12_sectionAt_4 rfl (lv_at hl 0 rfl) ?_
  refine lv_iload_n hx hb dX12_sectionAt_5 rfl (lv_at hl 1 rfl) ?_
  refine lv_i2l hx hb dX12_sectionAt_6 rfl ?_
  refine lv_lconst (v := (1 : Int64)) hx hb dX12_sectionAt_7 (by decide) ?_
  refine lv_aload_n hx hb dX12_sectionAt_8 rfl (lv_at hl 0 rfl) ?_
  refine fl_get12 (v := .int (r1.1 306 24)) kyf_306 F hW 24 (by decide) q_1495 rfl rfl dX12_sectionAt_9 ?_
  refine lv_i2l hx hb dX12_sectionAt_12 rfl ?_
  obtain ⟨r2, qr2, h⟩ := ob h
  refine k_X12_in F qr2 q_1643 ⟨Nat.le_of_ble_eq_true rfl, Nat.le_of_ble_eq_true rfl, Nat.le_of_ble_eq_true rfl, Nat.le_of_ble_eq_true rfl⟩ hW hS hl.1 (Nat.le_of_ble_eq_true rfl) dX12_sectionAt_13 (fun H locs hW hS => ?_)
  obtain ⟨r3, qr3, h⟩ := ob h
  refine k_X12_passes F qr3 q_1627 ⟨Nat.le_of_ble_eq_true rfl, Nat.le_of_ble_eq_true rfl, Nat.le_of_ble_eq_true rfl, Nat.le_of_ble_eq_true rfl⟩ hW hS hl.1 (Nat.le_of_ble_eq_true rfl) dX12_sectionAt_16 (fun H locs hW hS => ?_)
  refine lv_if_ne (tgt := 24) hx hb dX12_sectionAt_19 (by decide) (fun cc => ?_) (fun cc => ?_)
  · replace h := (if_neg cc).symm.trans h
    refine lv_iconst (v := (-1 : Int32)) hx hb dX12_sectionAt_24 (by decide) ?_
    refine lv_istore_n (lv' := [(2, .int (-1 : Int32)), (0, .ref (b + 306)), (1, .int a1)]) hx hb dX12_sectionAt_25 rfl hl (by decide) rfl (fun ls hl => ?_)
    refine lv_iconst (v := (0 : Int32)) hx hb dX12_sectionAt_26 (by decide) ?_
    refine lv_istore_n (lv' := [(3, .int (0 : Int32)), (2, .int (-1 : Int32)), (0, .ref (b + 306)), (1, .int a1)]) hx hb dX12_sectionAt_27 rfl hl (by decide) rfl (fun ls hl => ?_)
    exact wk_X12_sectionAt_28 F hr n _ _ _ _ _ _ h hW hS (lv_sub hl [2, 3, 1, 0] rfl)
  · replace h := (if_pos cc).symm.trans h
    refine lv_iconst (v := (0 : Int32)) hx hb dX12_sectionAt_22 (by decide) ?_
    cases h
    exact r_int F hr hW hS dX12_sectionAt_23
set_option maxHeartbeats 4000000 in
set_option maxRecDepth 100000 in
theorem c_X12_sectionAt {l : Launch} {G : Gt} {b : Nat} {n : Nat} {a1 : Int32} {μ : Mm} {out : (Int32 × Mm)} (h : sh_X12_sectionAt n a1 μ = some out) : Met l yX12_sectionAt (wU (Cond.code yX12_sectionAt cX12_sectionAt 4 (some .int))) ({ frames := 9, cells := 0, slots := 0, locals := 205 } : Room) (PcW (fg G) b μ [.ref (b + 306), .int a1]) (QW (fg G) b out.2 (some (.int out.1))) 0 0 (fb b) :=
  met_of [.ref (b + 306), .int a1] (by decide) (Nat.le_of_ble_eq_true rfl) (fun F hr hW hl => wk_X12_sectionAt F hr h hW va_S.rf hl)
set_option maxHeartbeats 4000000 in
set_option maxRecDepth 100000 in
theorem k_X12_sectionAt {own : String} {nL : Nat} (F : FX (fg G) b own cc nL p s m args meth c) {n : Nat} {a1 : Int32} {μ : Mm} {out : (Int32 × Mm)} (h : sh_X12_sectionAt n a1 μ = some out) {index : Nat} (hl : Cond.methodLink own index yX12_sectionAt ∈ TBG) (hR : 9 + 1 ≤ R.frames ∧ 8 + (4 + 11) + 205 ≤ R.locals ∧ cells ≤ R.cells ∧ slots ≤ R.slots) (hW : WH (fg G) b μ H) (hS : va_S (fb b) s.heap H locs) (hsz : ls.size = nL) (hrest : (rest.map fun v => v.category).sum ≤ 8) (hdg : decode cc pc = .ok (.invokevirtual index, 3))
    (kk : ∀ (H1 : Heap) (locs1 : List Loc), WH (fg G) b out.2 H1 → va_S (fb b) s.heap H1 locs1 → W p l e R s m args below meth c H1 locs1 cells slots Q (F0 m (pc + 3) ls (.int out.1 :: rest))) : W p l e R s m args below meth c H locs cells slots Q (F0 m pc ls (.int a1 :: .ref (b + 306) :: rest)) :=
  f_callV (As := [.int a1]) (ci := 12) (c_X12_sectionAt h) ⟨rfl, rfl⟩ rfl (ky_lm kyf_306 (by decide)) (wF_12 kyf_306) q_1918 q_1919 q_14 q_1920 rfl ⟨by decide +kernel, by decide +kernel, (show (parseMethodDescriptor yX12_sectionAt.desc).map (fun d => d.parameters.length) = some 1 by decide +kernel)⟩ F hl hR hW hS hsz hrest rfl hdg kk
set_option maxHeartbeats 4000000 in
set_option maxRecDepth 100000 in
theorem wk_X12_linesOf {a1 : Int32} {μ : Mm} {out : Int32} (F : FX (fg G) b RX12 cX12_linesOf 2 p s m args meth c) (hr : meth.sig.returnType = some .int) (h : sh_X12_linesOf a1 μ = some out) (hW : WH (fg G) b μ H) (hS : va_S (fb b) s.heap H locs) (hl : lv_has ls 2 [(0, .ref (b + 306)), (1, .int a1)]) : W p l e ({ frames := 0, cells := 0, slots := 0, locals := 0 } : Room) s m args below meth c H locs 0 0 (MQ below (QW (fg G) b μ (some (.int out))) args s 0 0 (fb b)) (F0 m 0 ls []) := by
  have hx := F.1
  have hb := F.2.1
  unfold sh_X12_linesOf at h
  refine lv_iload_n hx hb dX12_linesOf_0 rfl (lv_at hl 1 rfl) ?_
  refine lv_iconst (v := (1 : Int32)) hx hb dX12_linesOf_1 (by decide) ?_
  refine lv_iadd hx hb dX12_linesOf_2 ?_
  refine lv_aload_n hx hb dX12_linesOf_3 rfl (lv_at hl 0 rfl) ?_
  refine fl_get12 (v := .ref (b + 307)) kyf_306 F hW 1 (by decide) q_1472 rfl rfl dX12_linesOf_4 ?_
  refine lv_bipush (v := (9 : Int32)) hx hb dX12_linesOf_7 (by decide) ?_
  obtain ⟨v1, qv1, h⟩ := ob h
  refine fm_iald kyf_307 F hW qv1 dX12_linesOf_9 ?_
  refine lv_icmp_ge (tgt := 24) hx hb dX12_linesOf_10 (by decide) (fun cc => ?_) (fun cc => ?_)
  · replace h := (if_pos cc).symm.trans h
    refine lv_aload_n hx hb dX12_linesOf_24 rfl (lv_at hl 0 rfl) ?_
    refine fl_get12 (v := .int (μ.1 306 36)) kyf_306 F hW 36 (by decide) q_1507 rfl rfl dX12_linesOf_25 ?_
    refine lv_aload_n hx hb dX12_linesOf_28 rfl (lv_at hl 0 rfl) ?_
    refine fl_get12 (v := .ref (b + 324)) kyf_306 F hW 35 (by decide) q_1506 rfl rfl dX12_linesOf_29 ?_
    refine lv_iload_n hx hb dX12_linesOf_32 rfl (lv_at hl 1 rfl) ?_
    obtain ⟨v2, qv2, h⟩ := ob h
    refine fm_iald kyf_324 F hW qv2 dX12_linesOf_33 ?_
    refine lv_isub hx hb dX12_linesOf_34 ?_
    cases h
    exact r_int F hr hW hS dX12_linesOf_35
  · replace h := (if_neg cc).symm.trans h
    refine lv_aload_n hx hb dX12_linesOf_13 rfl (lv_at hl 0 rfl) ?_
    refine fl_get12 (v := .ref (b + 324)) kyf_306 F hW 35 (by decide) q_1506 rfl rfl dX12_linesOf_14 ?_
    refine lv_iload_n hx hb dX12_linesOf_17 rfl (lv_at hl 1 rfl) ?_
    refine lv_iconst (v := (1 : Int32)) hx hb dX12_linesOf_18 (by decide) ?_
    refine lv_iadd hx hb dX12_linesOf_19 ?_
    obtain ⟨v3, qv3, h⟩ := ob h
    refine fm_iald kyf_324 F hW qv3 dX12_linesOf_20 ?_
    refine lv_goto (tgt := 28) hx hb dX12_linesOf_21 (by decide) ?_
    refine lv_aload_n hx hb dX12_linesOf_28 rfl (lv_at hl 0 rfl) ?_
    refine fl_get12 (v := .ref (b + 324)) kyf_306 F hW 35 (by decide) q_1506 rfl rfl dX12_linesOf_29 ?_
    refine lv_iload_n hx hb dX12_linesOf_32 rfl (lv_at hl 1 rfl) ?_
    obtain ⟨v4, qv4, h⟩ := ob h
    refine fm_iald kyf_324 F hW qv4 dX12_linesOf_33 ?_
    refine lv_isub hx hb dX12_linesOf_34 ?_
    cases h
    exact r_int F hr hW hS dX12_linesOf_35
set_option maxHeartbeats 4000000 in
set_option maxRecDepth 100000 in
theorem c_X12_linesOf {l : Launch} {G : Gt} {b : Nat} {a1 : Int32} {μ : Mm} {out : Int32} (h : sh_X12_linesOf a1 μ = some out) : Met l yX12_linesOf (wU (Cond.code yX12_linesOf cX12_linesOf 2 (some .int))) ({ frames := 0, cells := 0, slots := 0, locals := 0 } : Room) (PcW (fg G) b μ [.ref (b + 306), .int a1]) (QW (fg G) b μ (some (.int out))) 0 0 (fb b) :=
  met_of [.ref (b + 306), .int a1] (by decide) (Nat.le_of_ble_eq_true rfl) (fun F hr hW hl => wk_X12_linesOf F hr h hW va_S.rf hl)
set_option maxHeartbeats 4000000 in
set_option maxRecDepth 100000 in
theorem k_X12_linesOf {own : String} {nL : Nat} (F : FX (fg G) b own cc nL p s m args meth c) {a1 : Int32} {μ : Mm} {out : Int32} (h : sh_X12_linesOf a1 μ = some out) {index : Nat} (hl : Cond.methodLink own index yX12_linesOf ∈ TBG) (hR : 0 + 1 ≤ R.frames ∧ 8 + (2 + 11) + 0 ≤ R.locals ∧ cells ≤ R.cells ∧ slots ≤ R.slots) (hW : WH (fg G) b μ H) (hS : va_S (fb b) s.heap H locs) (hsz : ls.size = nL) (hrest : (rest.map fun v => v.category).sum ≤ 8) (hdg : decode cc pc = .ok (.invokevirtual index, 3))
    (kk : ∀ (H1 : Heap) (locs1 : List Loc), WH (fg G) b μ H1 → va_S (fb b) s.heap H1 locs1 → W p l e R s m args below meth c H1 locs1 cells slots Q (F0 m (pc + 3) ls (.int out :: rest))) : W p l e R s m args below meth c H locs cells slots Q (F0 m pc ls (.int a1 :: .ref (b + 306) :: rest)) :=
  f_callV (As := [.int a1]) (ci := 12) (c_X12_linesOf h) ⟨rfl, rfl⟩ rfl (ky_lm kyf_306 (by decide)) (wF_12 kyf_306) q_1931 qp_93 q_14 q_1932 rfl ⟨by decide +kernel, by decide +kernel, (show (parseMethodDescriptor yX12_linesOf.desc).map (fun d => d.parameters.length) = some 1 by decide +kernel)⟩ F hl hR hW hS hsz hrest rfl hdg kk
set_option maxHeartbeats 4000000 in
set_option maxRecDepth 100000 in
theorem wk_X12_firstLine {n : Nat} {a1 : Int32} {μ : Mm} {out : (Int32 × Mm)} (F : FX (fg G) b RX12 cX12_firstLine 2 p s m args meth c) (hr : meth.sig.returnType = some .int) (h : sh_X12_firstLine n a1 μ = some out) (hW : WH (fg G) b μ H) (hS : va_S (fb b) s.heap H locs) (hl : lv_has ls 2 [(0, .ref (b + 306)), (1, .int a1)]) : W p l e ({ frames := 10, cells := 0, slots := 0, locals := 226 } : Room) s m args below meth c H locs 0 0 (MQ below (QW (fg G) b out.2 (some (.int out.1))) args s 0 0 (fb b)) (F0 m 0 ls []) := by
  have hx := F.1
  have hb := F.2.1
  unfold sh_X12_firstLine at h
  refine lv_aload_n hx hb dX12_firstLine_0 rfl (lv_at hl 0 rfl) ?_
  refine lv_iload_n hx hb dX12_firstLine_1 rfl (lv_at hl 1 rfl) ?_
  obtain ⟨r1, qr1, h⟩ := ob h
  refine k_X12_asks F qr1 q_1893 ⟨Nat.le_of_ble_eq_true rfl, Nat.le_of_ble_eq_true rfl, Nat.le_of_ble_eq_true rfl, Nat.le_of_ble_eq_true rfl⟩ hW hS hl.1 (Nat.le_of_ble_eq_true rfl) dX12_firstLine_2 (fun H locs hW hS => ?_)
  refine lv_if_eq (tgt := 17) hx hb dX12_firstLine_5 (by decide) (fun cc => ?_) (fun cc => ?_)
  · replace h := (if_pos cc).symm.trans h
    refine lv_iconst (v := (0 : Int32)) hx hb dX12_firstLine_17 (by decide) ?_
    cases h
    exact r_int F hr hW hS dX12_firstLine_18
  · replace h := (if_neg cc).symm.trans h
    refine lv_aload_n hx hb dX12_firstLine_8 rfl (lv_at hl 0 rfl) ?_
    refine fl_get12 (v := .ref (b + 324)) kyf_306 F hW 35 (by decide) q_1506 rfl rfl dX12_firstLine_9 ?_
    refine lv_iload_n hx hb dX12_firstLine_12 rfl (lv_at hl 1 rfl) ?_
    obtain ⟨v2, qv2, h⟩ := ob h
    refine fm_iald kyf_324 F hW qv2 dX12_firstLine_13 ?_
    refine lv_goto (tgt := 18) hx hb dX12_firstLine_14 (by decide) ?_
    cases h
    exact r_int F hr hW hS dX12_firstLine_18
set_option maxHeartbeats 4000000 in
set_option maxRecDepth 100000 in
theorem c_X12_firstLine {l : Launch} {G : Gt} {b : Nat} {n : Nat} {a1 : Int32} {μ : Mm} {out : (Int32 × Mm)} (h : sh_X12_firstLine n a1 μ = some out) : Met l yX12_firstLine (wU (Cond.code yX12_firstLine cX12_firstLine 2 (some .int))) ({ frames := 10, cells := 0, slots := 0, locals := 226 } : Room) (PcW (fg G) b μ [.ref (b + 306), .int a1]) (QW (fg G) b out.2 (some (.int out.1))) 0 0 (fb b) :=
  met_of [.ref (b + 306), .int a1] (by decide) (Nat.le_of_ble_eq_true rfl) (fun F hr hW hl => wk_X12_firstLine F hr h hW va_S.rf hl)
set_option maxHeartbeats 4000000 in
set_option maxRecDepth 100000 in
theorem k_X12_firstLine {own : String} {nL : Nat} (F : FX (fg G) b own cc nL p s m args meth c) {n : Nat} {a1 : Int32} {μ : Mm} {out : (Int32 × Mm)} (h : sh_X12_firstLine n a1 μ = some out) {index : Nat} (hl : Cond.methodLink own index yX12_firstLine ∈ TBG) (hR : 10 + 1 ≤ R.frames ∧ 8 + (2 + 11) + 226 ≤ R.locals ∧ cells ≤ R.cells ∧ slots ≤ R.slots) (hW : WH (fg G) b μ H) (hS : va_S (fb b) s.heap H locs) (hsz : ls.size = nL) (hrest : (rest.map fun v => v.category).sum ≤ 8) (hdg : decode cc pc = .ok (.invokevirtual index, 3))
    (kk : ∀ (H1 : Heap) (locs1 : List Loc), WH (fg G) b out.2 H1 → va_S (fb b) s.heap H1 locs1 → W p l e R s m args below meth c H1 locs1 cells slots Q (F0 m (pc + 3) ls (.int out.1 :: rest))) : W p l e R s m args below meth c H locs cells slots Q (F0 m pc ls (.int a1 :: .ref (b + 306) :: rest)) :=
  f_callV (As := [.int a1]) (ci := 12) (c_X12_firstLine h) ⟨rfl, rfl⟩ rfl (ky_lm kyf_306 (by decide)) (wF_12 kyf_306) q_1922 q_1923 q_14 q_1924 rfl ⟨by decide +kernel, by decide +kernel, (show (parseMethodDescriptor yX12_firstLine.desc).map (fun d => d.parameters.length) = some 1 by decide +kernel)⟩ F hl hR hW hS hsz hrest rfl hdg kk
set_option maxHeartbeats 4000000 in
set_option maxRecDepth 100000 in
theorem wk_X12_lineCount {n : Nat} {a1 : Int32} {μ : Mm} {out : (Int32 × Mm)} (F : FX (fg G) b RX12 cX12_lineCount 2 p s m args meth c) (hr : meth.sig.returnType = some .int) (h : sh_X12_lineCount n a1 μ = some out) (hW : WH (fg G) b μ H) (hS : va_S (fb b) s.heap H locs) (hl : lv_has ls 2 [(0, .ref (b + 306)), (1, .int a1)]) : W p l e ({ frames := 10, cells := 0, slots := 0, locals := 226 } : Room) s m args below meth c H locs 0 0 (MQ below (QW (fg G) b out.2 (some (.int out.1))) args s 0 0 (fb b)) (F0 m 0 ls []) := by
  have hx := F.1
  have hb := F.2.1
  unfold sh_X12_lineCount at h
  refine lv_aload_n hx hb dX12_lineCount_0 rfl (lv_at hl 0 rfl) ?_
  refine lv_iload_n hx hb dX12_lineCount_1 rfl (lv_at hl 1 rfl) ?_
  obtain ⟨r1, qr1, h⟩ := ob h
  refine k_X12_asks F qr1 q_1893 ⟨Nat.le_of_ble_eq_true rfl, Nat.le_of_ble_eq_true rfl, Nat.le_of_ble_eq_true rfl, Nat.le_of_ble_eq_true rfl⟩ hW hS hl.1 (Nat.le_of_ble_eq_true rfl) dX12_lineCount_2 (fun H locs hW hS => ?_)
  refine lv_if_eq (tgt := 16) hx hb dX12_lineCount_5 (by decide) (fun cc => ?_) (fun cc => ?_)
  · replace h := (if_pos cc).symm.trans h
    refine lv_iconst (v := (0 : Int32)) hx hb dX12_lineCount_16 (by decide) ?_
    cases h
    exact r_int F hr hW hS dX12_lineCount_17
  · replace h := (if_neg cc).symm.trans h
    refine lv_aload_n hx hb dX12_lineCount_8 rfl (lv_at hl 0 rfl) ?_
    refine lv_iload_n hx hb dX12_lineCount_9 rfl (lv_at hl 1 rfl) ?_
    obtain ⟨r2, qr2, h⟩ := ob h
    refine k_X12_linesOf F qr2 q_1929 ⟨Nat.le_of_ble_eq_true rfl, Nat.le_of_ble_eq_true rfl, Nat.le_of_ble_eq_true rfl, Nat.le_of_ble_eq_true rfl⟩ hW hS hl.1 (Nat.le_of_ble_eq_true rfl) dX12_lineCount_10 (fun H locs hW hS => ?_)
    refine lv_goto (tgt := 17) hx hb dX12_lineCount_13 (by decide) ?_
    cases h
    exact r_int F hr hW hS dX12_lineCount_17
set_option maxHeartbeats 4000000 in
set_option maxRecDepth 100000 in
theorem c_X12_lineCount {l : Launch} {G : Gt} {b : Nat} {n : Nat} {a1 : Int32} {μ : Mm} {out : (Int32 × Mm)} (h : sh_X12_lineCount n a1 μ = some out) : Met l yX12_lineCount (wU (Cond.code yX12_lineCount cX12_lineCount 2 (some .int))) ({ frames := 10, cells := 0, slots := 0, locals := 226 } : Room) (PcW (fg G) b μ [.ref (b + 306), .int a1]) (QW (fg G) b out.2 (some (.int out.1))) 0 0 (fb b) :=
  met_of [.ref (b + 306), .int a1] (by decide) (Nat.le_of_ble_eq_true rfl) (fun F hr hW hl => wk_X12_lineCount F hr h hW va_S.rf hl)
set_option maxHeartbeats 4000000 in
set_option maxRecDepth 100000 in
theorem k_X12_lineCount {own : String} {nL : Nat} (F : FX (fg G) b own cc nL p s m args meth c) {n : Nat} {a1 : Int32} {μ : Mm} {out : (Int32 × Mm)} (h : sh_X12_lineCount n a1 μ = some out) {index : Nat} (hl : Cond.methodLink own index yX12_lineCount ∈ TBG) (hR : 10 + 1 ≤ R.frames ∧ 8 + (2 + 11) + 226 ≤ R.locals ∧ cells ≤ R.cells ∧ slots ≤ R.slots) (hW : WH (fg G) b μ H) (hS : va_S (fb b) s.heap H locs) (hsz : ls.size = nL) (hrest : (rest.map fun v => v.category).sum ≤ 8) (hdg : decode cc pc = .ok (.invokevirtual index, 3))
    (kk : ∀ (H1 : Heap) (locs1 : List Loc), WH (fg G) b out.2 H1 → va_S (fb b) s.heap H1 locs1 → W p l e R s m args below meth c H1 locs1 cells slots Q (F0 m (pc + 3) ls (.int out.1 :: rest))) : W p l e R s m args below meth c H locs cells slots Q (F0 m pc ls (.int a1 :: .ref (b + 306) :: rest)) :=
  f_callV (As := [.int a1]) (ci := 12) (c_X12_lineCount h) ⟨rfl, rfl⟩ rfl (ky_lm kyf_306 (by decide)) (wF_12 kyf_306) q_1926 q_1927 q_14 q_1928 rfl ⟨by decide +kernel, by decide +kernel, (show (parseMethodDescriptor yX12_lineCount.desc).map (fun d => d.parameters.length) = some 1 by decide +kernel)⟩ F hl hR hW hS hsz hrest rfl hdg kk
set_option maxHeartbeats 4000000 in
set_option maxRecDepth 100000 in
theorem wk_X12_isLine {n : Nat} {a1 : Int32} {μ : Mm} {out : (Int32 × Mm)} (F : FX (fg G) b RX12 cX12_isLine 2 p s m args meth c) (hr : meth.sig.returnType = some .boolean) (h : sh_X12_isLine n a1 μ = some out) (hW : WH (fg G) b μ H) (hS : va_S (fb b) s.heap H locs) (hl : lv_has ls 2 [(0, .ref (b + 306)), (1, .int a1)]) : W p l e ({ frames := 9, cells := 0, slots := 0, locals := 205 } : Room) s m args below meth c H locs 0 0 (MQ below (QW (fg G) b out.2 (some (.int out.1))) args s 0 0 (fb b)) (F0 m 0 ls []) := by
  have hx := F.1
  have hb := F.2.1
  unfold sh_X12_isLine at h
  refine lv_aload_n hx hb dX12_isLine_0 rfl (lv_at hl 0 rfl) ?_
  obtain ⟨r1, qr1, h⟩ := ob h
  refine k_X12_lay F qr1 q_1764 ⟨Nat.le_of_ble_eq_true rfl, Nat.le_of_ble_eq_true rfl, Nat.le_of_ble_eq_true rfl, Nat.le_of_ble_eq_true rfl⟩ hW hS hl.1 (Nat.le_of_ble_eq_true rfl) dX12_isLine_1 (fun H locs hW hS => ?_)
  refine lv_iload_n hx hb dX12_isLine_4 rfl (lv_at hl 1 rfl) ?_
  refine lv_i2l hx hb dX12_isLine_5 rfl ?_
  refine lv_lconst (v := (0 : Int64)) hx hb dX12_isLine_6 (by decide) ?_
  refine lv_aload_n hx hb dX12_isLine_7 rfl (lv_at hl 0 rfl) ?_
  refine fl_get12 (v := .int (r1.1 306 36)) kyf_306 F hW 36 (by decide) q_1507 rfl rfl dX12_isLine_8 ?_
  refine lv_iconst (v := (1 : Int32)) hx hb dX12_isLine_11 (by decide) ?_
  refine lv_isub hx hb dX12_isLine_12 ?_
  refine lv_i2l hx hb dX12_isLine_13 rfl ?_
  obtain ⟨r2, qr2, h⟩ := ob h
  refine k_X12_in F qr2 q_1643 ⟨Nat.le_of_ble_eq_true rfl, Nat.le_of_ble_eq_true rfl, Nat.le_of_ble_eq_true rfl, Nat.le_of_ble_eq_true rfl⟩ hW hS hl.1 (Nat.le_of_ble_eq_true rfl) dX12_isLine_14 (fun H locs hW hS => ?_)
  obtain ⟨v3, qv3, h⟩ := ob h
  obtain ⟨zv3, qv3⟩ := isB_some qv3
  rw [qv3] at zv3
  rw [qv3]
  cases h
  exact r_bool F hr zv3 hW hS dX12_isLine_17
set_option maxHeartbeats 4000000 in
set_option maxRecDepth 100000 in
theorem c_X12_isLine {l : Launch} {G : Gt} {b : Nat} {n : Nat} {a1 : Int32} {μ : Mm} {out : (Int32 × Mm)} (h : sh_X12_isLine n a1 μ = some out) : Met l yX12_isLine (wU (Cond.code yX12_isLine cX12_isLine 2 (some .boolean))) ({ frames := 9, cells := 0, slots := 0, locals := 205 } : Room) (PcW (fg G) b μ [.ref (b + 306), .int a1]) (QW (fg G) b out.2 (some (.int out.1))) 0 0 (fb b) :=
  met_of [.ref (b + 306), .int a1] (by decide) (Nat.le_of_ble_eq_true rfl) (fun F hr hW hl => wk_X12_isLine F hr h hW va_S.rf hl)
set_option maxHeartbeats 4000000 in
set_option maxRecDepth 100000 in
theorem k_X12_isLine {own : String} {nL : Nat} (F : FX (fg G) b own cc nL p s m args meth c) {n : Nat} {a1 : Int32} {μ : Mm} {out : (Int32 × Mm)} (h : sh_X12_isLine n a1 μ = some out) {index : Nat} (hl : Cond.methodLink own index yX12_isLine ∈ TBG) (hR : 9 + 1 ≤ R.frames ∧ 8 + (2 + 11) + 205 ≤ R.locals ∧ cells ≤ R.cells ∧ slots ≤ R.slots) (hW : WH (fg G) b μ H) (hS : va_S (fb b) s.heap H locs) (hsz : ls.size = nL) (hrest : (rest.map fun v => v.category).sum ≤ 8) (hdg : decode cc pc = .ok (.invokevirtual index, 3))
    (kk : ∀ (H1 : Heap) (locs1 : List Loc), WH (fg G) b out.2 H1 → va_S (fb b) s.heap H1 locs1 → W p l e R s m args below meth c H1 locs1 cells slots Q (F0 m (pc + 3) ls (.int out.1 :: rest))) : W p l e R s m args below meth c H locs cells slots Q (F0 m pc ls (.int a1 :: .ref (b + 306) :: rest)) :=
  f_callV (As := [.int a1]) (ci := 12) (c_X12_isLine h) ⟨rfl, rfl⟩ rfl (ky_lm kyf_306 (by decide)) (wF_12 kyf_306) q_1939 qp_94 q_14 q_1940 rfl ⟨by decide +kernel, by decide +kernel, (show (parseMethodDescriptor yX12_isLine.desc).map (fun d => d.parameters.length) = some 1 by decide +kernel)⟩ F hl hR hW hS hsz hrest rfl hdg kk
set_option maxHeartbeats 4000000 in
set_option maxRecDepth 100000 in
theorem wk_X12_line {n : Nat} {a1 : Int32} {a2 : Int32} {μ : Mm} {out : (Int32 × Mm)} (F : FX (fg G) b RX12 cX12_line 3 p s m args meth c) (hr : meth.sig.returnType = some .int) (h : sh_X12_line n a1 a2 μ = some out) (hW : WH (fg G) b μ H) (hS : va_S (fb b) s.heap H locs) (hl : lv_has ls 3 [(0, .ref (b + 306)), (1, .int a1), (2, .int a2)]) : W p l e ({ frames := 10, cells := 0, slots := 0, locals := 226 } : Room) s m args below meth c H locs 0 0 (MQ below (QW (fg G) b out.2 (some (.int out.1))) args s 0 0 (fb b)) (F0 m 0 ls []) := by
  have hx := F.1
  have hb := F.2.1
  unfold sh_X12_line at h
  refine lv_aload_n hx hb dX12_line_0 rfl (lv_at hl 0 rfl) ?_
  refine lv_aload_n hx hb dX12_line_1 rfl (lv_at hl 0 rfl) ?_
  refine lv_iload_n hx hb dX12_line_2 rfl (lv_at hl 1 rfl) ?_
  obtain ⟨r1, qr1, h⟩ := ob h
  refine k_X12_isLine F qr1 q_1937 ⟨Nat.le_of_ble_eq_true rfl, Nat.le_of_ble_eq_true rfl, Nat.le_of_ble_eq_true rfl, Nat.le_of_ble_eq_true rfl⟩ hW hS hl.1 (Nat.le_of_ble_eq_true rfl) dX12_line_3 (fun H locs hW hS => ?_)
  refine lv_iload_n hx hb dX12_line_6 rfl (lv_at hl 2 rfl) ?_
  refine lv_i2l hx hb dX12_line_7 rfl ?_
  refine lv_lconst (v := (0 : Int64)) hx hb dX12_line_8 (by decide) ?_
  refine lv_ldc2 hx hb F.2.2.2.1 (F.2.2.2.2.1 _ q_1941) dX12_line_9 ?_
  obtain ⟨r2, qr2, h⟩ := ob h
  refine k_X12_in F qr2 q_1643 ⟨Nat.le_of_ble_eq_true rfl, Nat.le_of_ble_eq_true rfl, Nat.le_of_ble_eq_true rfl, Nat.le_of_ble_eq_true rfl⟩ hW hS hl.1 (Nat.le_of_ble_eq_true rfl) dX12_line_12 (fun H locs hW hS => ?_)
  obtain ⟨r3, qr3, h⟩ := ob h
  refine k_X12_passes2 F qr3 q_1873 ⟨Nat.le_of_ble_eq_true rfl, Nat.le_of_ble_eq_true rfl, Nat.le_of_ble_eq_true rfl, Nat.le_of_ble_eq_true rfl⟩ hW hS hl.1 (Nat.le_of_ble_eq_true rfl) dX12_line_15 (fun H locs hW hS => ?_)
  refine lv_if_ne (tgt := 23) hx hb dX12_line_18 (by decide) (fun cc => ?_) (fun cc => ?_)
  · replace h := (if_neg cc).symm.trans h
    refine lv_iload_n hx hb dX12_line_23 rfl (lv_at hl 2 rfl) ?_
    by_cases cs0 : a2 = (0 : Int32)
    · replace h := (if_pos cs0).symm.trans h
      rw [cs0]
      refine lv_tableIn (off := 32) (tgt := 56) hx hb dX12_line_24 (by decide) (by decide) rfl (by decide) ?_
      refine lv_aload_n hx hb dX12_line_56 rfl (lv_at hl 0 rfl) ?_
      refine fl_get12 (v := .ref (b + 316)) kyf_306 F hW 27 (by decide) q_1498 rfl rfl dX12_line_57 ?_
      refine lv_iload_n hx hb dX12_line_60 rfl (lv_at hl 1 rfl) ?_
      obtain ⟨v4, qv4, h⟩ := ob h
      refine fm_iald kyf_316 F hW qv4 dX12_line_61 ?_
      cases h
      exact r_int F hr hW hS dX12_line_62
    replace h := (if_neg cs0).symm.trans h
    by_cases cs1 : a2 = (1 : Int32)
    · replace h := (if_pos cs1).symm.trans h
      rw [cs1]
      refine lv_tableIn (off := 39) (tgt := 63) hx hb dX12_line_24 (by decide) (by decide) rfl (by decide) ?_
      refine lv_aload_n hx hb dX12_line_63 rfl (lv_at hl 0 rfl) ?_
      refine fl_get12 (v := .ref (b + 317)) kyf_306 F hW 28 (by decide) q_1499 rfl rfl dX12_line_64 ?_
      refine lv_iload_n hx hb dX12_line_67 rfl (lv_at hl 1 rfl) ?_
      obtain ⟨v5, qv5, h⟩ := ob h
      refine fm_iald kyf_317 F hW qv5 dX12_line_68 ?_
      cases h
      exact r_int F hr hW hS dX12_line_69
    replace h := (if_neg cs1).symm.trans h
    by_cases cs2 : a2 = (2 : Int32)
    · replace h := (if_pos cs2).symm.trans h
      rw [cs2]
      refine lv_tableIn (off := 46) (tgt := 70) hx hb dX12_line_24 (by decide) (by decide) rfl (by decide) ?_
      refine lv_aload_n hx hb dX12_line_70 rfl (lv_at hl 0 rfl) ?_
      refine fl_get12 (v := .ref (b + 320)) kyf_306 F hW 31 (by decide) q_1502 rfl rfl dX12_line_71 ?_
      refine lv_iload_n hx hb dX12_line_74 rfl (lv_at hl 1 rfl) ?_
      obtain ⟨v6, qv6, h⟩ := ob h
      refine fm_iald kyf_320 F hW qv6 dX12_line_75 ?_
      cases h
      exact r_int F hr hW hS dX12_line_76
    replace h := (if_neg cs2).symm.trans h
    by_cases cs3 : a2 = (3 : Int32)
    · replace h := (if_pos cs3).symm.trans h
      rw [cs3]
      refine lv_tableIn (off := 53) (tgt := 77) hx hb dX12_line_24 (by decide) (by decide) rfl (by decide) ?_
      refine lv_aload_n hx hb dX12_line_77 rfl (lv_at hl 0 rfl) ?_
      refine fl_get12 (v := .ref (b + 319)) kyf_306 F hW 30 (by decide) q_1501 rfl rfl dX12_line_78 ?_
      refine lv_iload_n hx hb dX12_line_81 rfl (lv_at hl 1 rfl) ?_
      obtain ⟨v7, qv7, h⟩ := ob h
      refine fm_iald kyf_319 F hW qv7 dX12_line_82 ?_
      cases h
      exact r_int F hr hW hS dX12_line_83
    replace h := (if_neg cs3).symm.trans h
    refine lv_tableOut (tgt := 84) hx hb dX12_line_24 (t_out (hi := 3) ?_ (by decide)) (by decide) ?_
    · intro k hk
      rcases (show k = 0 ∨ k = 1 ∨ k = 2 ∨ k = 3 by omega) with rfl | rfl | rfl | rfl
      · exact cs0
      · exact cs1
      · exact cs2
      · exact cs3
    refine lv_iload_n hx hb dX12_line_84 rfl (lv_at hl 1 rfl) ?_
    refine lv_aload_n hx hb dX12_line_85 rfl (lv_at hl 0 rfl) ?_
    refine fl_get12 (v := .ref (b + 307)) kyf_306 F hW 1 (by decide) q_1472 rfl rfl dX12_line_86 ?_
    refine lv_iconst (v := (1 : Int32)) hx hb dX12_line_89 (by decide) ?_
    obtain ⟨v8, qv8, h⟩ := ob h
    refine fm_iald kyf_307 F hW qv8 dX12_line_90 ?_
    obtain ⟨v9, qv9, h⟩ := ob h
    obtain ⟨zv9, qv9⟩ := dv_some qv9
    refine lv_idiv hx hb dX12_line_91 zv9 ?_
    rw [qv9]
    refine lv_iconst (v := (1 : Int32)) hx hb dX12_line_92 (by decide) ?_
    refine lv_iadd hx hb dX12_line_93 ?_
    cases h
    exact r_int F hr hW hS dX12_line_94
  · replace h := (if_pos cc).symm.trans h
    refine lv_iconst (v := (0 : Int32)) hx hb dX12_line_21 (by decide) ?_
    cases h
    exact r_int F hr hW hS dX12_line_22
set_option maxHeartbeats 4000000 in
set_option maxRecDepth 100000 in
theorem c_X12_line {l : Launch} {G : Gt} {b : Nat} {n : Nat} {a1 : Int32} {a2 : Int32} {μ : Mm} {out : (Int32 × Mm)} (h : sh_X12_line n a1 a2 μ = some out) : Met l yX12_line (wU (Cond.code yX12_line cX12_line 3 (some .int))) ({ frames := 10, cells := 0, slots := 0, locals := 226 } : Room) (PcW (fg G) b μ [.ref (b + 306), .int a1, .int a2]) (QW (fg G) b out.2 (some (.int out.1))) 0 0 (fb b) :=
  met_of [.ref (b + 306), .int a1, .int a2] (by decide) (Nat.le_of_ble_eq_true rfl) (fun F hr hW hl => wk_X12_line F hr h hW va_S.rf hl)
set_option maxHeartbeats 4000000 in
set_option maxRecDepth 100000 in
theorem k_X12_line {own : String} {nL : Nat} (F : FX (fg G) b own cc nL p s m args meth c) {n : Nat} {a1 : Int32} {a2 : Int32} {μ : Mm} {out : (Int32 × Mm)} (h : sh_X12_line n a1 a2 μ = some out) {index : Nat} (hl : Cond.methodLink own index yX12_line ∈ TBG) (hR : 10 + 1 ≤ R.frames ∧ 8 + (3 + 11) + 226 ≤ R.locals ∧ cells ≤ R.cells ∧ slots ≤ R.slots) (hW : WH (fg G) b μ H) (hS : va_S (fb b) s.heap H locs) (hsz : ls.size = nL) (hrest : (rest.map fun v => v.category).sum ≤ 8) (hdg : decode cc pc = .ok (.invokevirtual index, 3))
    (kk : ∀ (H1 : Heap) (locs1 : List Loc), WH (fg G) b out.2 H1 → va_S (fb b) s.heap H1 locs1 → W p l e R s m args below meth c H1 locs1 cells slots Q (F0 m (pc + 3) ls (.int out.1 :: rest))) : W p l e R s m args below meth c H locs cells slots Q (F0 m pc ls (.int a2 :: .int a1 :: .ref (b + 306) :: rest)) :=
  f_callV (As := [.int a1, .int a2]) (ci := 12) (c_X12_line h) ⟨rfl, rfl⟩ rfl (ky_lm kyf_306 (by decide)) (wF_12 kyf_306) q_1934 q_1935 q_14 q_1936 rfl ⟨by decide +kernel, by decide +kernel, (show (parseMethodDescriptor yX12_line.desc).map (fun d => d.parameters.length) = some 2 by decide +kernel)⟩ F hl hR hW hS hsz hrest rfl hdg kk
set_option maxHeartbeats 4000000 in
set_option maxRecDepth 100000 in
theorem wk_X12_dotCount_26 {n : Nat} {a1 : Int32} {s1 : Int32} {s2 : Int32} {μ : Mm} {out : (Int32 × Mm)} (F : FX (fg G) b RX12 cX12_dotCount 3 p s m args meth c) (hr : meth.sig.returnType = some .int) (h : sh_X12_dotCount_26 n a1 s1 s2 μ = some out) (hW : WH (fg G) b μ H) (hS : va_S (fb b) s.heap H locs) (hl : lv_has ls 3 [(0, .ref (b + 306)), (1, .int a1)]) : W p l e ({ frames := 10, cells := 0, slots := 0, locals := 226 } : Room) s m args below meth c H locs 0 0 (MQ below (QW (fg G) b out.2 (some (.int out.1))) args s 0 0 (fb b)) (F0 m 26 ls [.int s2, .int s1, .ref (b + 306)]) := by
  have hx := F.1
  have hb := F.2.1
  unfold sh_X12_dotCount_26 at h
  obtain ⟨r3, qr3, h⟩ := ob h
  refine k_X12_passes2 F qr3 q_1873 ⟨Nat.le_of_ble_eq_true rfl, Nat.le_of_ble_eq_true rfl, Nat.le_of_ble_eq_true rfl, Nat.le_of_ble_eq_true rfl⟩ hW hS hl.1 (Nat.le_of_ble_eq_true rfl) dX12_dotCount_26 (fun H locs hW hS => ?_)
  refine lv_if_eq (tgt := 41) hx hb dX12_dotCount_29 (by decide) (fun cc => ?_) (fun cc => ?_)
  · replace h := (if_pos cc).symm.trans h
    refine lv_iconst (v := (0 : Int32)) hx hb dX12_dotCount_41 (by decide) ?_
    cases h
    exact r_int F hr hW hS dX12_dotCount_42
  · replace h := (if_neg cc).symm.trans h
    refine lv_aload_n hx hb dX12_dotCount_32 rfl (lv_at hl 0 rfl) ?_
    refine fl_get12 (v := .ref (b + 322)) kyf_306 F hW 33 (by decide) q_1504 rfl rfl dX12_dotCount_33 ?_
    refine lv_iload_n hx hb dX12_dotCount_36 rfl (lv_at hl 1 rfl) ?_
    obtain ⟨v4, qv4, h⟩ := ob h
    refine fm_iald kyf_322 F hW qv4 dX12_dotCount_37 ?_
    refine lv_goto (tgt := 42) hx hb dX12_dotCount_38 (by decide) ?_
    cases h
    exact r_int F hr hW hS dX12_dotCount_42
set_option maxHeartbeats 4000000 in
set_option maxRecDepth 100000 in
theorem wk_X12_dotCount_21 {n : Nat} {a1 : Int32} {s1 : Int32} {μ : Mm} {out : (Int32 × Mm)} (F : FX (fg G) b RX12 cX12_dotCount 3 p s m args meth c) (hr : meth.sig.returnType = some .int) (h : sh_X12_dotCount_21 n a1 s1 μ = some out) (hW : WH (fg G) b μ H) (hS : va_S (fb b) s.heap H locs) (hl : lv_has ls 3 [(0, .ref (b + 306)), (1, .int a1)]) : W p l e ({ frames := 10, cells := 0, slots := 0, locals := 226 } : Room) s m args below meth c H locs 0 0 (MQ below (QW (fg G) b out.2 (some (.int out.1))) args s 0 0 (fb b)) (F0 m 21 ls [.int s1, .ref (b + 306)]) := by
  have hx := F.1
  have hb := F.2.1
  unfold sh_X12_dotCount_21 at h
  refine lv_iconst (v := (1 : Int32)) hx hb dX12_dotCount_21 (by decide) ?_
  refine lv_goto (tgt := 26) hx hb dX12_dotCount_22 (by decide) ?_
  exact wk_X12_dotCount_26 F hr h hW hS (lv_sub hl [0, 1] rfl)
set_option maxHeartbeats 4000000 in
set_option maxRecDepth 100000 in
theorem wk_X12_dotCount {n : Nat} {a1 : Int32} {μ : Mm} {out : (Int32 × Mm)} (F : FX (fg G) b RX12 cX12_dotCount 3 p s m args meth c) (hr : meth.sig.returnType = some .int) (h : sh_X12_dotCount n a1 μ = some out) (hW : WH (fg G) b μ H) (hS : va_S (fb b) s.heap H locs) (hl : lv_has ls 3 [(0, .ref (b + 306)), (1, .int a1)]) : W p l e ({ frames := 10, cells := 0, slots := 0, locals := 226 } : Room) s m args below meth c H locs 0 0 (MQ below (QW (fg G) b out.2 (some (.int out.1))) args s 0 0 (fb b)) (F0 m 0 ls []) := by
  have hx := F.1
  have hb := F.2.1
  unfold sh_X12_dotCount at h
  refine lv_aload_n hx hb dX12_dotCount_0 rfl (lv_at hl 0 rfl) ?_
  refine lv_iload_n hx hb dX12_dotCount_1 rfl (lv_at hl 1 rfl) ?_
  obtain ⟨r1, qr1, h⟩ := ob h
  refine k_X12_isLine F qr1 q_1937 ⟨Nat.le_of_ble_eq_true rfl, Nat.le_of_ble_eq_true rfl, Nat.le_of_ble_eq_true rfl, Nat.le_of_ble_eq_true rfl⟩ hW hS hl.1 (Nat.le_of_ble_eq_true rfl) dX12_dotCount_2 (fun H locs hW hS => ?_)
  obtain ⟨v2, ev2⟩ : ∃ y, y = r1.1 := ⟨_, rfl⟩
  have h := nm_at ev2 h
  rw [← ev2]
  refine lv_istore_n (lv' := [(2, .int v2), (0, .ref (b + 306)), (1, .int a1)]) hx hb dX12_dotCount_5 rfl hl (by decide) rfl (fun ls hl => ?_)
  refine lv_aload_n hx hb dX12_dotCount_6 rfl (lv_at hl 1 rfl) ?_
  refine lv_iload_n hx hb dX12_dotCount_7 rfl (lv_at hl 0 rfl) ?_
  refine lv_iload_n hx hb dX12_dotCount_8 rfl (lv_at hl 0 rfl) ?_
  refine lv_if_eq (tgt := 21) hx hb dX12_dotCount_9 (by decide) (fun cc => ?_) (fun cc => ?_)
  · replace h := (if_pos cc).symm.trans h
    exact wk_X12_dotCount_21 F hr h hW hS (lv_sub hl [1, 2] rfl)
  · replace h := (if_neg cc).symm.trans h
    refine lv_aload_n hx hb dX12_dotCount_12 rfl (lv_at hl 1 rfl) ?_
    refine fl_get12 (v := .ref (b + 321)) kyf_306 F hW 32 (by decide) q_1503 rfl rfl dX12_dotCount_13 ?_
    refine lv_iload_n hx hb dX12_dotCount_16 rfl (lv_at hl 2 rfl) ?_
    obtain ⟨v5, qv5, h⟩ := ob h
    refine fm_zald kyf_321 F hW qv5 dX12_dotCount_17 ?_
    refine lv_if_eq (tgt := 25) hx hb dX12_dotCount_18 (by decide) (fun cc => ?_) (fun cc => ?_)
    · replace h := (if_pos cc).symm.trans h
      refine lv_iconst (v := (0 : Int32)) hx hb dX12_dotCount_25 (by decide) ?_
      exact wk_X12_dotCount_26 F hr h hW hS (lv_sub hl [1, 2] rfl)
    · replace h := (if_neg cc).symm.trans h
      exact wk_X12_dotCount_21 F hr h hW hS (lv_sub hl [1, 2] rfl)
set_option maxHeartbeats 4000000 in
set_option maxRecDepth 100000 in
theorem c_X12_dotCount {l : Launch} {G : Gt} {b : Nat} {n : Nat} {a1 : Int32} {μ : Mm} {out : (Int32 × Mm)} (h : sh_X12_dotCount n a1 μ = some out) : Met l yX12_dotCount (wU (Cond.code yX12_dotCount cX12_dotCount 3 (some .int))) ({ frames := 10, cells := 0, slots := 0, locals := 226 } : Room) (PcW (fg G) b μ [.ref (b + 306), .int a1]) (QW (fg G) b out.2 (some (.int out.1))) 0 0 (fb b) :=
  met_of [.ref (b + 306), .int a1] (by decide) (Nat.le_of_ble_eq_true rfl) (fun F hr hW hl => wk_X12_dotCount F hr h hW va_S.rf hl)
set_option maxHeartbeats 4000000 in
set_option maxRecDepth 100000 in
theorem k_X12_dotCount {own : String} {nL : Nat} (F : FX (fg G) b own cc nL p s m args meth c) {n : Nat} {a1 : Int32} {μ : Mm} {out : (Int32 × Mm)} (h : sh_X12_dotCount n a1 μ = some out) {index : Nat} (hl : Cond.methodLink own index yX12_dotCount ∈ TBG) (hR : 10 + 1 ≤ R.frames ∧ 8 + (3 + 11) + 226 ≤ R.locals ∧ cells ≤ R.cells ∧ slots ≤ R.slots) (hW : WH (fg G) b μ H) (hS : va_S (fb b) s.heap H locs) (hsz : ls.size = nL) (hrest : (rest.map fun v => v.category).sum ≤ 8) (hdg : decode cc pc = .ok (.invokevirtual index, 3))
    (kk : ∀ (H1 : Heap) (locs1 : List Loc), WH (fg G) b out.2 H1 → va_S (fb b) s.heap H1 locs1 → W p l e R s m args below meth c H1 locs1 cells slots Q (F0 m (pc + 3) ls (.int out.1 :: rest))) : W p l e R s m args below meth c H locs cells slots Q (F0 m pc ls (.int a1 :: .ref (b + 306) :: rest)) :=
  f_callV (As := [.int a1]) (ci := 12) (c_X12_dotCount h) ⟨rfl, rfl⟩ rfl (ky_lm kyf_306 (by decide)) (wF_12 kyf_306) q_1943 q_1944 q_14 q_1945 rfl ⟨by decide +kernel, by decide +kernel, (show (parseMethodDescriptor yX12_dotCount.desc).map (fun d => d.parameters.length) = some 1 by decide +kernel)⟩ F hl hR hW hS hsz hrest rfl hdg kk
set_option maxHeartbeats 4000000 in
set_option maxRecDepth 100000 in
theorem wk_X12_firstDot_26 {n : Nat} {a1 : Int32} {s1 : Int32} {s2 : Int32} {μ : Mm} {out : (Int32 × Mm)} (F : FX (fg G) b RX12 cX12_firstDot 3 p s m args meth c) (hr : meth.sig.returnType = some .int) (h : sh_X12_firstDot_26 n a1 s1 s2 μ = some out) (hW : WH (fg G) b μ H) (hS : va_S (fb b) s.heap H locs) (hl : lv_has ls 3 [(0, .ref (b + 306)), (1, .int a1)]) : W p l e ({ frames := 10, cells := 0, slots := 0, locals := 226 } : Room) s m args below meth c H locs 0 0 (MQ below (QW (fg G) b out.2 (some (.int out.1))) args s 0 0 (fb b)) (F0 m 26 ls [.int s2, .int s1, .ref (b + 306)]) := by
  have hx := F.1
  have hb := F.2.1
  unfold sh_X12_firstDot_26 at h
  obtain ⟨r3, qr3, h⟩ := ob h
  refine k_X12_passes2 F qr3 q_1873 ⟨Nat.le_of_ble_eq_true rfl, Nat.le_of_ble_eq_true rfl, Nat.le_of_ble_eq_true rfl, Nat.le_of_ble_eq_true rfl⟩ hW hS hl.1 (Nat.le_of_ble_eq_true rfl) dX12_firstDot_26 (fun H locs hW hS => ?_)
  refine lv_if_eq (tgt := 41) hx hb dX12_firstDot_29 (by decide) (fun cc => ?_) (fun cc => ?_)
  · replace h := (if_pos cc).symm.trans h
    refine lv_iconst (v := (0 : Int32)) hx hb dX12_firstDot_41 (by decide) ?_
    cases h
    exact r_int F hr hW hS dX12_firstDot_42
  · replace h := (if_neg cc).symm.trans h
    refine lv_aload_n hx hb dX12_firstDot_32 rfl (lv_at hl 0 rfl) ?_
    refine fl_get12 (v := .ref (b + 323)) kyf_306 F hW 34 (by decide) q_1505 rfl rfl dX12_firstDot_33 ?_
    refine lv_iload_n hx hb dX12_firstDot_36 rfl (lv_at hl 1 rfl) ?_
    obtain ⟨v4, qv4, h⟩ := ob h
    refine fm_iald kyf_323 F hW qv4 dX12_firstDot_37 ?_
    refine lv_goto (tgt := 42) hx hb dX12_firstDot_38 (by decide) ?_
    cases h
    exact r_int F hr hW hS dX12_firstDot_42
set_option maxHeartbeats 4000000 in
set_option maxRecDepth 100000 in
theorem wk_X12_firstDot_21 {n : Nat} {a1 : Int32} {s1 : Int32} {μ : Mm} {out : (Int32 × Mm)} (F : FX (fg G) b RX12 cX12_firstDot 3 p s m args meth c) (hr : meth.sig.returnType = some .int) (h : sh_X12_firstDot_21 n a1 s1 μ = some out) (hW : WH (fg G) b μ H) (hS : va_S (fb b) s.heap H locs) (hl : lv_has ls 3 [(0, .ref (b + 306)), (1, .int a1)]) : W p l e ({ frames := 10, cells := 0, slots := 0, locals := 226 } : Room) s m args below meth c H locs 0 0 (MQ below (QW (fg G) b out.2 (some (.int out.1))) args s 0 0 (fb b)) (F0 m 21 ls [.int s1, .ref (b + 306)]) := by
  have hx := F.1
  have hb := F.2.1
  unfold sh_X12_firstDot_21 at h
  refine lv_iconst (v := (1 : Int32)) hx hb dX12_firstDot_21 (by decide) ?_
  refine lv_goto (tgt := 26) hx hb dX12_firstDot_22 (by decide) ?_
  exact wk_X12_firstDot_26 F hr h hW hS (lv_sub hl [0, 1] rfl)
set_option maxHeartbeats 4000000 in
set_option maxRecDepth 100000 in
theorem wk_X12_firstDot {n : Nat} {a1 : Int32} {μ : Mm} {out : (Int32 × Mm)} (F : FX (fg G) b RX12 cX12_firstDot 3 p s m args meth c) (hr : meth.sig.returnType = some .int) (h : sh_X12_firstDot n a1 μ = some out) (hW : WH (fg G) b μ H) (hS : va_S (fb b) s.heap H locs) (hl : lv_has ls 3 [(0, .ref (b + 306)), (1, .int a1)]) : W p l e ({ frames := 10, cells := 0, slots := 0, locals := 226 } : Room) s m args below meth c H locs 0 0 (MQ below (QW (fg G) b out.2 (some (.int out.1))) args s 0 0 (fb b)) (F0 m 0 ls []) := by
  have hx := F.1
  have hb := F.2.1
  unfold sh_X12_firstDot at h
  refine lv_aload_n hx hb dX12_firstDot_0 rfl (lv_at hl 0 rfl) ?_
  refine lv_iload_n hx hb dX12_firstDot_1 rfl (lv_at hl 1 rfl) ?_
  obtain ⟨r1, qr1, h⟩ := ob h
  refine k_X12_isLine F qr1 q_1937 ⟨Nat.le_of_ble_eq_true rfl, Nat.le_of_ble_eq_true rfl, Nat.le_of_ble_eq_true rfl, Nat.le_of_ble_eq_true rfl⟩ hW hS hl.1 (Nat.le_of_ble_eq_true rfl) dX12_firstDot_2 (fun H locs hW hS => ?_)
  obtain ⟨v2, ev2⟩ : ∃ y, y = r1.1 := ⟨_, rfl⟩
  have h := nm_at ev2 h
  rw [← ev2]
  refine lv_istore_n (lv' := [(2, .int v2), (0, .ref (b + 306)), (1, .int a1)]) hx hb dX12_firstDot_5 rfl hl (by decide) rfl (fun ls hl => ?_)
  refine lv_aload_n hx hb dX12_firstDot_6 rfl (lv_at hl 1 rfl) ?_
  refine lv_iload_n hx hb dX12_firstDot_7 rfl (lv_at hl 0 rfl) ?_
  refine lv_iload_n hx hb dX12_firstDot_8 rfl (lv_at hl 0 rfl) ?_
  refine lv_if_eq (tgt := 21) hx hb dX12_firstDot_9 (by decide) (fun cc => ?_) (fun cc => ?_)
  · replace h := (if_pos cc).symm.trans h
    exact wk_X12_firstDot_21 F hr h hW hS (lv_sub hl [1, 2] rfl)
  · replace h := (if_neg cc).symm.trans h
    refine lv_aload_n hx hb dX12_firstDot_12 rfl (lv_at hl 1 rfl) ?_
    refine fl_get12 (v := .ref (b + 321)) kyf_306 F hW 32 (by decide) q_1503 rfl rfl dX12_firstDot_13 ?_
    refine lv_iload_n hx hb dX12_firstDot_16 rfl (lv_at hl 2 rfl) ?_
    obtain ⟨v5, qv5, h⟩ := ob h
    refine fm_zald kyf_321 F hW qv5 dX12_firstDot_17 ?_
    refine lv_if_eq (tgt := 25) hx hb dX12_firstDot_18 (by decide) (fun cc => ?_) (fun cc => ?_)
    · replace h := (if_pos cc).symm.trans h
      refine lv_iconst (v := (0 : Int32)) hx hb dX12_firstDot_25 (by decide) ?_
      exact wk_X12_firstDot_26 F hr h hW hS (lv_sub hl [1, 2] rfl)
    · replace h := (if_neg cc).symm.trans h
      exact wk_X12_firstDot_21 F hr h hW hS (lv_sub hl [1, 2] rfl)
set_option maxHeartbeats 4000000 in
set_option maxRecDepth 100000 in
theorem c_X12_firstDot {l : Launch} {G : Gt} {b : Nat} {n : Nat} {a1 : Int32} {μ : Mm} {out : (Int32 × Mm)} (h : sh_X12_firstDot n a1 μ = some out) : Met l yX12_firstDot (wU (Cond.code yX12_firstDot cX12_firstDot 3 (some .int))) ({ frames := 10, cells := 0, slots := 0, locals := 226 } : Room) (PcW (fg G) b μ [.ref (b + 306), .int a1]) (QW (fg G) b out.2 (some (.int out.1))) 0 0 (fb b) :=
  met_of [.ref (b + 306), .int a1] (by decide) (Nat.le_of_ble_eq_true rfl) (fun F hr hW hl => wk_X12_firstDot F hr h hW va_S.rf hl)
set_option maxHeartbeats 4000000 in
set_option maxRecDepth 100000 in
theorem k_X12_firstDot {own : String} {nL : Nat} (F : FX (fg G) b own cc nL p s m args meth c) {n : Nat} {a1 : Int32} {μ : Mm} {out : (Int32 × Mm)} (h : sh_X12_firstDot n a1 μ = some out) {index : Nat} (hl : Cond.methodLink own index yX12_firstDot ∈ TBG) (hR : 10 + 1 ≤ R.frames ∧ 8 + (3 + 11) + 226 ≤ R.locals ∧ cells ≤ R.cells ∧ slots ≤ R.slots) (hW : WH (fg G) b μ H) (hS : va_S (fb b) s.heap H locs) (hsz : ls.size = nL) (hrest : (rest.map fun v => v.category).sum ≤ 8) (hdg : decode cc pc = .ok (.invokevirtual index, 3))
    (kk : ∀ (H1 : Heap) (locs1 : List Loc), WH (fg G) b out.2 H1 → va_S (fb b) s.heap H1 locs1 → W p l e R s m args below meth c H1 locs1 cells slots Q (F0 m (pc + 3) ls (.int out.1 :: rest))) : W p l e R s m args below meth c H locs cells slots Q (F0 m pc ls (.int a1 :: .ref (b + 306) :: rest)) :=
  f_callV (As := [.int a1]) (ci := 12) (c_X12_firstDot h) ⟨rfl, rfl⟩ rfl (ky_lm kyf_306 (by decide)) (wF_12 kyf_306) q_1947 q_1948 q_14 q_1949 rfl ⟨by decide +kernel, by decide +kernel, (show (parseMethodDescriptor yX12_firstDot.desc).map (fun d => d.parameters.length) = some 1 by decide +kernel)⟩ F hl hR hW hS hsz hrest rfl hdg kk
set_option maxHeartbeats 4000000 in
set_option maxRecDepth 100000 in
theorem wk_X12_dotsAt_70 {n : Nat} {a1 : Int32} {k26 : (Int32 → Int32 → Mm → Option (Int32 × Mm))} {x2 : Int32} {x3 : Int32} {s0 : Int32} {μ : Mm} {out : (Int32 × Mm)} (F : FX (fg G) b RX12 cX12_dotsAt 5 p s m args meth c) (hr : meth.sig.returnType = some .int) (hk26 : ∀ (x2 : Int32) (x3 : Int32) (μ : Mm) (H : Heap) (locs : List Loc) (ls : Array Slot), k26 x2 x3 μ = some out → WH (fg G) b μ H → va_S (fb b) s.heap H locs → lv_has ls 5 [(0, .ref (b + 306)), (1, .int a1), (2, .int x2), (3, .int x3)] → W p l e ({ frames := 9, cells := 0, slots := 0, locals := 205 } : Room) s m args below meth c H locs 0 0 (MQ below (QW (fg G) b out.2 (some (.int out.1))) args s 0 0 (fb b)) (F0 m 26 ls [])) (h : sh_X12_dotsAt_70 n a1 k26 x2 x3 s0 μ = some out) (hW : WH (fg G) b μ H) (hS : va_S (fb b) s.heap H locs) (hl : lv_has ls 5 [(0, .ref (b + 306)), (1, .int a1), (2, .int x2), (3, .int x3)]) : W p l e ({ frames := 9, cells := 0, slots := 0, locals := 205 } : Room) s m args below meth c H locs 0 0 (MQ below (QW (fg G) b out.2 (some (.int out.1))) args s 0 0 (fb b)) (F0 m 70 ls [.int s0]) := by
  have hx := F.1
  have hb := F.2.1
  unfold sh_X12_dotsAt_70 at h
  refine lv_istore (lv' := [(4, .int s0), (0, .ref (b + 306)), (1, .int a1), (2, .int x2), (3, .int x3)]) hx hb dX12_dotsAt_70 hl (by decide) rfl (fun ls hl => ?_)
  refine lv_iload_n hx hb dX12_dotsAt_72 rfl (lv_at hl 3 rfl) ?_
  refine lv_iload hx hb dX12_dotsAt_73 (lv_at hl 0 rfl) ?_
  refine lv_if_eq (tgt := 107) hx hb dX12_dotsAt_75 (by decide) (fun cc => ?_) (fun cc => ?_)
  · replace h := (if_pos cc).symm.trans h
    refine lv_iconst (v := (0 : Int32)) hx hb dX12_dotsAt_107 (by decide) ?_
    refine lv_iadd hx hb dX12_dotsAt_108 ?_
    obtain ⟨v4, ev4⟩ : ∃ y, y = (x2 + (0 : Int32)) := ⟨_, rfl⟩
    have h := nm_at ev4 h
    rw [← ev4]
    refine lv_istore_n (lv' := [(2, .int v4), (4, .int s0), (0, .ref (b + 306)), (1, .int a1), (3, .int x3)]) hx hb dX12_dotsAt_109 rfl hl (by decide) rfl (fun ls hl => ?_)
    refine lv_iinc (v := (x3 + (1 : Int32))) (lv' := [(3, .int (x3 + (1 : Int32))), (2, .int v4), (4, .int s0), (0, .ref (b + 306)), (1, .int a1)]) hx hb dX12_dotsAt_110 hl (k := 4) rfl rfl (by decide) rfl (fun ls hl => ?_)
    refine lv_goto (tgt := 26) hx hb dX12_dotsAt_113 (by decide) ?_
    exact hk26 _ _ _ _ _ _ h hW hS (lv_sub hl [3, 4, 1, 0] rfl)
  · replace h := (if_neg cc).symm.trans h
    refine lv_iload_n hx hb dX12_dotsAt_78 rfl (lv_at hl 2 rfl) ?_
    refine lv_aload_n hx hb dX12_dotsAt_79 rfl (lv_at hl 1 rfl) ?_
    refine fl_get12 (v := .ref (b + 323)) kyf_306 F hW 34 (by decide) q_1505 rfl rfl dX12_dotsAt_80 ?_
    refine lv_iload_n hx hb dX12_dotsAt_83 rfl (lv_at hl 4 rfl) ?_
    obtain ⟨v5, qv5, h⟩ := ob h
    refine fm_iald kyf_323 F hW qv5 dX12_dotsAt_84 ?_
    refine lv_isub hx hb dX12_dotsAt_85 ?_
    refine lv_aload_n hx hb dX12_dotsAt_86 rfl (lv_at hl 1 rfl) ?_
    refine fl_get12 (v := .ref (b + 307)) kyf_306 F hW 1 (by decide) q_1472 rfl rfl dX12_dotsAt_87 ?_
    refine lv_bipush (v := (7 : Int32)) hx hb dX12_dotsAt_90 (by decide) ?_
    obtain ⟨v6, qv6, h⟩ := ob h
    refine fm_iald kyf_307 F hW qv6 dX12_dotsAt_92 ?_
    obtain ⟨v7, qv7, h⟩ := ob h
    obtain ⟨zv7, qv7⟩ := dv_some qv7
    refine lv_idiv hx hb dX12_dotsAt_93 zv7 ?_
    rw [qv7]
    refine lv_aload_n hx hb dX12_dotsAt_94 rfl (lv_at hl 1 rfl) ?_
    refine fl_get12 (v := .ref (b + 322)) kyf_306 F hW 33 (by decide) q_1504 rfl rfl dX12_dotsAt_95 ?_
    refine lv_iload_n hx hb dX12_dotsAt_98 rfl (lv_at hl 4 rfl) ?_
    obtain ⟨v8, qv8, h⟩ := ob h
    refine fm_iald kyf_322 F hW qv8 dX12_dotsAt_99 ?_
    refine lv_icmp_ge (tgt := 107) hx hb dX12_dotsAt_100 (by decide) (fun cc => ?_) (fun cc => ?_)
    · replace h := (if_pos cc).symm.trans h
      refine lv_iconst (v := (0 : Int32)) hx hb dX12_dotsAt_107 (by decide) ?_
      refine lv_iadd hx hb dX12_dotsAt_108 ?_
      obtain ⟨v9, ev9⟩ : ∃ y, y = (x2 + (0 : Int32)) := ⟨_, rfl⟩
      have h := nm_at ev9 h
      rw [← ev9]
      refine lv_istore_n (lv' := [(2, .int v9), (4, .int s0), (0, .ref (b + 306)), (1, .int a1), (3, .int x3)]) hx hb dX12_dotsAt_109 rfl hl (by decide) rfl (fun ls hl => ?_)
      refine lv_iinc (v := (x3 + (1 : Int32))) (lv' := [(3, .int (x3 + (1 : Int32))), (2, .int v9), (4, .int s0), (0, .ref (b + 306)), (1, .int a1)]) hx hb dX12_dotsAt_110 hl (k := 4) rfl rfl (by decide) rfl (fun ls hl => ?_)
      refine lv_goto (tgt := 26) hx hb dX12_dotsAt_113 (by decide) ?_
      exact hk26 _ _ _ _ _ _ h hW hS (lv_sub hl [3, 4, 1, 0] rfl)
    · replace h := (if_neg cc).symm.trans h
      refine lv_iconst (v := (1 : Int32)) hx hb dX12_dotsAt_103 (by decide) ?_
      refine lv_goto (tgt := 108) hx hb dX12_dotsAt_104 (by decide) ?_
      refine lv_iadd hx hb dX12_dotsAt_108 ?_
      obtain ⟨v10, ev10⟩ : ∃ y, y = (x2 + (1 : Int32)) := ⟨_, rfl⟩
      have h := nm_at ev10 h
      rw [← ev10]
      refine lv_istore_n (lv' := [(2, .int v10), (4, .int s0), (0, .ref (b + 306)), (1, .int a1), (3, .int x3)]) hx hb dX12_dotsAt_109 rfl hl (by decide) rfl (fun ls hl => ?_)
      refine lv_iinc (v := (x3 + (1 : Int32))) (lv' := [(3, .int (x3 + (1 : Int32))), (2, .int v10), (4, .int s0), (0, .ref (b + 306)), (1, .int a1)]) hx hb dX12_dotsAt_110 hl (k := 4) rfl rfl (by decide) rfl (fun ls hl => ?_)
      refine lv_goto (tgt := 26) hx hb dX12_dotsAt_113 (by decide) ?_
      exact hk26 _ _ _ _ _ _ h hW hS (lv_sub hl [3, 4, 1, 0] rfl)
set_option maxHeartbeats 4000000 in
set_option maxRecDepth 100000 in
theorem wk_X12_dotsAt_69 {n : Nat} {a1 : Int32} {k26 : (Int32 → Int32 → Mm → Option (Int32 × Mm))} {x2 : Int32} {x3 : Int32} {μ : Mm} {out : (Int32 × Mm)} (F : FX (fg G) b RX12 cX12_dotsAt 5 p s m args meth c) (hr : meth.sig.returnType = some .int) (hk26 : ∀ (x2 : Int32) (x3 : Int32) (μ : Mm) (H : Heap) (locs : List Loc) (ls : Array Slot), k26 x2 x3 μ = some out → WH (fg G) b μ H → va_S (fb b) s.heap H locs → lv_has ls 5 [(0, .ref (b + 306)), (1, .int a1), (2, .int x2), (3, .int x3)] → W p l e ({ frames := 9, cells := 0, slots := 0, locals := 205 } : Room) s m args below meth c H locs 0 0 (MQ below (QW (fg G) b out.2 (some (.int out.1))) args s 0 0 (fb b)) (F0 m 26 ls [])) (h : sh_X12_dotsAt_69 n a1 k26 x2 x3 μ = some out) (hW : WH (fg G) b μ H) (hS : va_S (fb b) s.heap H locs) (hl : lv_has ls 5 [(0, .ref (b + 306)), (1, .int a1), (2, .int x2), (3, .int x3)]) : W p l e ({ frames := 9, cells := 0, slots := 0, locals := 205 } : Room) s m args below meth c H locs 0 0 (MQ below (QW (fg G) b out.2 (some (.int out.1))) args s 0 0 (fb b)) (F0 m 69 ls []) := by
  have hx := F.1
  have hb := F.2.1
  unfold sh_X12_dotsAt_69 at h
  refine lv_iconst (v := (0 : Int32)) hx hb dX12_dotsAt_69 (by decide) ?_
  exact wk_X12_dotsAt_70 F hr hk26 h hW hS (lv_sub hl [0, 1, 2, 3] rfl)
set_option maxHeartbeats 4000000 in
set_option maxRecDepth 100000 in
theorem wk_X12_dotsAt_26 {n : Nat} {a1 : Int32} {out : (Int32 × Mm)} (F : FX (fg G) b RX12 cX12_dotsAt 5 p s m args meth c) (hr : meth.sig.returnType = some .int) : ∀ (f : Nat) (x2 : Int32) (x3 : Int32) (μ : Mm) (H : Heap) (locs : List Loc) (ls : Array Slot), sh_X12_dotsAt_26 n a1 f x2 x3 μ = some out → WH (fg G) b μ H → va_S (fb b) s.heap H locs → lv_has ls 5 [(0, .ref (b + 306)), (1, .int a1), (2, .int x2), (3, .int x3)] → W p l e ({ frames := 9, cells := 0, slots := 0, locals := 205 } : Room) s m args below meth c H locs 0 0 (MQ below (QW (fg G) b out.2 (some (.int out.1))) args s 0 0 (fb b)) (F0 m 26 ls []) := by
  have hx := F.1
  have hb := F.2.1
  intro f
  induction f with
  | zero =>
    intro _ _ _ _ _ _ h
    rw [sh_X12_dotsAt_26] at h
    cases h
  | succ f ih =>
    intro x2 x3 μ H locs ls h hW hS hl
    rw [sh_X12_dotsAt_26] at h
    have hk26 := ih
    refine lv_iload_n hx hb dX12_dotsAt_26 rfl (lv_at hl 3 rfl) ?_
    refine lv_aload_n hx hb dX12_dotsAt_27 rfl (lv_at hl 0 rfl) ?_
    refine fl_get12 (v := .int (μ.1 306 36)) kyf_306 F hW 36 (by decide) q_1507 rfl rfl dX12_dotsAt_28 ?_
    refine lv_icmp_ge (tgt := 116) hx hb dX12_dotsAt_31 (by decide) (fun cc => ?_) (fun cc => ?_)
    · replace h := (if_pos cc).symm.trans h
      refine lv_iload_n hx hb dX12_dotsAt_116 rfl (lv_at hl 2 rfl) ?_
      cases h
      exact r_int F hr hW hS dX12_dotsAt_117
    · replace h := (if_neg cc).symm.trans h
      refine lv_aload_n hx hb dX12_dotsAt_34 rfl (lv_at hl 0 rfl) ?_
      refine fl_get12 (v := .ref (b + 322)) kyf_306 F hW 33 (by decide) q_1504 rfl rfl dX12_dotsAt_35 ?_
      refine lv_iload_n hx hb dX12_dotsAt_38 rfl (lv_at hl 3 rfl) ?_
      obtain ⟨v3, qv3, h⟩ := ob h
      refine fm_iald kyf_322 F hW qv3 dX12_dotsAt_39 ?_
      refine lv_if_le (tgt := 69) hx hb dX12_dotsAt_40 (by decide) (fun cc => ?_) (fun cc => ?_)
      · replace h := (if_pos cc).symm.trans h
        exact wk_X12_dotsAt_69 F hr hk26 h hW hS (lv_sub hl [0, 1, 2, 3] rfl)
      · replace h := (if_neg cc).symm.trans h
        refine lv_iload_n hx hb dX12_dotsAt_43 rfl (lv_at hl 1 rfl) ?_
        refine lv_aload_n hx hb dX12_dotsAt_44 rfl (lv_at hl 0 rfl) ?_
        refine fl_get12 (v := .ref (b + 323)) kyf_306 F hW 34 (by decide) q_1505 rfl rfl dX12_dotsAt_45 ?_
        refine lv_iload_n hx hb dX12_dotsAt_48 rfl (lv_at hl 3 rfl) ?_
        obtain ⟨v11, qv11, h⟩ := ob h
        refine fm_iald kyf_323 F hW qv11 dX12_dotsAt_49 ?_
        refine lv_icmp_lt (tgt := 69) hx hb dX12_dotsAt_50 (by decide) (fun cc => ?_) (fun cc => ?_)
        · replace h := (if_pos cc).symm.trans h
          exact wk_X12_dotsAt_69 F hr hk26 h hW hS (lv_sub hl [0, 1, 2, 3] rfl)
        · replace h := (if_neg cc).symm.trans h
          refine lv_iload_n hx hb dX12_dotsAt_53 rfl (lv_at hl 1 rfl) ?_
          refine lv_aload_n hx hb dX12_dotsAt_54 rfl (lv_at hl 0 rfl) ?_
          refine fl_get12 (v := .ref (b + 307)) kyf_306 F hW 1 (by decide) q_1472 rfl rfl dX12_dotsAt_55 ?_
          refine lv_bipush (v := (7 : Int32)) hx hb dX12_dotsAt_58 (by decide) ?_
          obtain ⟨v12, qv12, h⟩ := ob h
          refine fm_iald kyf_307 F hW qv12 dX12_dotsAt_60 ?_
          obtain ⟨v13, qv13, h⟩ := ob h
          obtain ⟨zv13, qv13⟩ := rm_some qv13
          refine lv_irem hx hb dX12_dotsAt_61 zv13 ?_
          rw [qv13]
          refine lv_if_ne (tgt := 69) hx hb dX12_dotsAt_62 (by decide) (fun cc => ?_) (fun cc => ?_)
          · replace h := (if_neg cc).symm.trans h
            exact wk_X12_dotsAt_69 F hr hk26 h hW hS (lv_sub hl [0, 1, 2, 3] rfl)
          · replace h := (if_pos cc).symm.trans h
            refine lv_iconst (v := (1 : Int32)) hx hb dX12_dotsAt_65 (by decide) ?_
            refine lv_goto (tgt := 70) hx hb dX12_dotsAt_66 (by decide) ?_
            exact wk_X12_dotsAt_70 F hr hk26 h hW hS (lv_sub hl [0, 1, 2, 3] rfl)
set_option maxHeartbeats 4000000 in
set_option maxRecDepth 100000 in
theorem wk_X12_dotsAt_10 {n : Nat} {a1 : Int32} {s1 : Int32} {μ : Mm} {out : (Int32 × Mm)} (F : FX (fg G) b RX12 cX12_dotsAt 5 p s m args meth c) (hr : meth.sig.returnType = some .int) (h : sh_X12_dotsAt_10 n a1 s1 μ = some out) (hW : WH (fg G) b μ H) (hS : va_S (fb b) s.heap H locs) (hl : lv_has ls 5 [(0, .ref (b + 306)), (1, .int a1)]) : W p l e ({ frames := 9, cells := 0, slots := 0, locals := 205 } : Room) s m args below meth c H locs 0 0 (MQ below (QW (fg G) b out.2 (some (.int out.1))) args s 0 0 (fb b)) (F0 m 10 ls [.int s1, .ref (b + 306)]) := by
  have hx := F.1
  have hb := F.2.1
  unfold sh_X12_dotsAt_10 at h
  obtain ⟨r1, qr1, h⟩ := ob h
  refine k_X12_passes F qr1 q_1627 ⟨Nat.le_of_ble_eq_true rfl, Nat.le_of_ble_eq_true rfl, Nat.le_of_ble_eq_true rfl, Nat.le_of_ble_eq_true rfl⟩ hW hS hl.1 (Nat.le_of_ble_eq_true rfl) dX12_dotsAt_10 (fun H locs hW hS => ?_)
  refine lv_if_ne (tgt := 18) hx hb dX12_dotsAt_13 (by decide) (fun cc => ?_) (fun cc => ?_)
  · replace h := (if_neg cc).symm.trans h
    refine lv_aload_n hx hb dX12_dotsAt_18 rfl (lv_at hl 0 rfl) ?_
    obtain ⟨r2, qr2, h⟩ := ob h
    refine k_X12_lay F qr2 q_1764 ⟨Nat.le_of_ble_eq_true rfl, Nat.le_of_ble_eq_true rfl, Nat.le_of_ble_eq_true rfl, Nat.le_of_ble_eq_true rfl⟩ hW hS hl.1 (Nat.le_of_ble_eq_true rfl) dX12_dotsAt_19 (fun H locs hW hS => ?_)
    refine lv_iconst (v := (0 : Int32)) hx hb dX12_dotsAt_22 (by decide) ?_
    refine lv_istore_n (lv' := [(2, .int (0 : Int32)), (0, .ref (b + 306)), (1, .int a1)]) hx hb dX12_dotsAt_23 rfl hl (by decide) rfl (fun ls hl => ?_)
    refine lv_iconst (v := (0 : Int32)) hx hb dX12_dotsAt_24 (by decide) ?_
    refine lv_istore_n (lv' := [(3, .int (0 : Int32)), (2, .int (0 : Int32)), (0, .ref (b + 306)), (1, .int a1)]) hx hb dX12_dotsAt_25 rfl hl (by decide) rfl (fun ls hl => ?_)
    exact wk_X12_dotsAt_26 F hr n _ _ _ _ _ _ h hW hS (lv_sub hl [2, 3, 1, 0] rfl)
  · replace h := (if_pos cc).symm.trans h
    refine lv_iconst (v := (0 : Int32)) hx hb dX12_dotsAt_16 (by decide) ?_
    cases h
    exact r_int F hr hW hS dX12_dotsAt_17
set_option maxHeartbeats 4000000 in
set_option maxRecDepth 100000 in
theorem wk_X12_dotsAt {n : Nat} {a1 : Int32} {μ : Mm} {out : (Int32 × Mm)} (F : FX (fg G) b RX12 cX12_dotsAt 5 p s m args meth c) (hr : meth.sig.returnType = some .int) (h : sh_X12_dotsAt n a1 μ = some out) (hW : WH (fg G) b μ H) (hS : va_S (fb b) s.heap H locs) (hl : lv_has ls 5 [(0, .ref (b + 306)), (1, .int a1)]) : W p l e ({ frames := 9, cells := 0, slots := 0, locals := 205 } : Room) s m args below meth c H locs 0 0 (MQ below (QW (fg G) b out.2 (some (.int out.1))) args s 0 0 (fb b)) (F0 m 0 ls []) := by
  have hx := F.1
  have hb := F.2.1
  unfold sh_X12_dotsAt at h
  refine lv_aload_n hx hb dX12_dotsAt_0 rfl (lv_at hl 0 rfl) ?_
  refine lv_iload_n hx hb dX12_dotsAt_1 rfl (lv_at hl 1 rfl) ?_
  refine lv_if_lt (tgt := 9) hx hb dX12_dotsAt_2 (by decide) (fun cc => ?_) (fun cc => ?_)
  · replace h := (if_pos cc).symm.trans h
    refine lv_iconst (v := (0 : Int32)) hx hb dX12_dotsAt_9 (by decide) ?_
    exact wk_X12_dotsAt_10 F hr h hW hS (lv_sub hl [0, 1] rfl)
  · replace h := (if_neg cc).symm.trans h
    refine lv_iconst (v := (1 : Int32)) hx hb dX12_dotsAt_5 (by decide) ?_
    refine lv_goto (tgt := 10) hx hb dX12_dotsAt_6 (by decide) ?_
    exact wk_X12_dotsAt_10 F hr h hW hS (lv_sub hl [0, 1] rfl)
set_option maxHeartbeats 4000000 in
set_option maxRecDepth 100000 in
theorem c_X12_dotsAt {l : Launch} {G : Gt} {b : Nat} {n : Nat} {a1 : Int32} {μ : Mm} {out : (Int32 × Mm)} (h : sh_X12_dotsAt n a1 μ = some out) : Met l yX12_dotsAt (wU (Cond.code yX12_dotsAt cX12_dotsAt 5 (some .int))) ({ frames := 9, cells := 0, slots := 0, locals := 205 } : Room) (PcW (fg G) b μ [.ref (b + 306), .int a1]) (QW (fg G) b out.2 (some (.int out.1))) 0 0 (fb b) :=
  met_of [.ref (b + 306), .int a1] (by decide) (Nat.le_of_ble_eq_true rfl) (fun F hr hW hl => wk_X12_dotsAt F hr h hW va_S.rf hl)
set_option maxHeartbeats 4000000 in
set_option maxRecDepth 100000 in
theorem k_X12_dotsAt {own : String} {nL : Nat} (F : FX (fg G) b own cc nL p s m args meth c) {n : Nat} {a1 : Int32} {μ : Mm} {out : (Int32 × Mm)} (h : sh_X12_dotsAt n a1 μ = some out) {index : Nat} (hl : Cond.methodLink own index yX12_dotsAt ∈ TBG) (hR : 9 + 1 ≤ R.frames ∧ 8 + (5 + 11) + 205 ≤ R.locals ∧ cells ≤ R.cells ∧ slots ≤ R.slots) (hW : WH (fg G) b μ H) (hS : va_S (fb b) s.heap H locs) (hsz : ls.size = nL) (hrest : (rest.map fun v => v.category).sum ≤ 8) (hdg : decode cc pc = .ok (.invokevirtual index, 3))
    (kk : ∀ (H1 : Heap) (locs1 : List Loc), WH (fg G) b out.2 H1 → va_S (fb b) s.heap H1 locs1 → W p l e R s m args below meth c H1 locs1 cells slots Q (F0 m (pc + 3) ls (.int out.1 :: rest))) : W p l e R s m args below meth c H locs cells slots Q (F0 m pc ls (.int a1 :: .ref (b + 306) :: rest)) :=
  f_callV (As := [.int a1]) (ci := 12) (c_X12_dotsAt h) ⟨rfl, rfl⟩ rfl (ky_lm kyf_306 (by decide)) (wF_12 kyf_306) q_1951 q_1952 q_14 q_1953 rfl ⟨by decide +kernel, by decide +kernel, (show (parseMethodDescriptor yX12_dotsAt.desc).map (fun d => d.parameters.length) = some 1 by decide +kernel)⟩ F hl hR hW hS hsz hrest rfl hdg kk
set_option maxHeartbeats 4000000 in
set_option maxRecDepth 100000 in
theorem wk_X12_isOverfull {n : Nat} {a1 : Int32} {μ : Mm} {out : (Int32 × Mm)} (F : FX (fg G) b RX12 cX12_isOverfull 2 p s m args meth c) (hr : meth.sig.returnType = some .boolean) (h : sh_X12_isOverfull n a1 μ = some out) (hW : WH (fg G) b μ H) (hS : va_S (fb b) s.heap H locs) (hl : lv_has ls 2 [(0, .ref (b + 306)), (1, .int a1)]) : W p l e ({ frames := 10, cells := 0, slots := 0, locals := 226 } : Room) s m args below meth c H locs 0 0 (MQ below (QW (fg G) b out.2 (some (.int out.1))) args s 0 0 (fb b)) (F0 m 0 ls []) := by
  have hx := F.1
  have hb := F.2.1
  unfold sh_X12_isOverfull at h
  refine lv_aload_n hx hb dX12_isOverfull_0 rfl (lv_at hl 0 rfl) ?_
  refine lv_aload_n hx hb dX12_isOverfull_1 rfl (lv_at hl 0 rfl) ?_
  refine lv_iload_n hx hb dX12_isOverfull_2 rfl (lv_at hl 1 rfl) ?_
  obtain ⟨r1, qr1, h⟩ := ob h
  refine k_X12_isLine F qr1 q_1937 ⟨Nat.le_of_ble_eq_true rfl, Nat.le_of_ble_eq_true rfl, Nat.le_of_ble_eq_true rfl, Nat.le_of_ble_eq_true rfl⟩ hW hS hl.1 (Nat.le_of_ble_eq_true rfl) dX12_isOverfull_3 (fun H locs hW hS => ?_)
  obtain ⟨r2, qr2, h⟩ := ob h
  refine k_X12_passes F qr2 q_1627 ⟨Nat.le_of_ble_eq_true rfl, Nat.le_of_ble_eq_true rfl, Nat.le_of_ble_eq_true rfl, Nat.le_of_ble_eq_true rfl⟩ hW hS hl.1 (Nat.le_of_ble_eq_true rfl) dX12_isOverfull_6 (fun H locs hW hS => ?_)
  refine lv_if_eq (tgt := 29) hx hb dX12_isOverfull_9 (by decide) (fun cc => ?_) (fun cc => ?_)
  · replace h := (if_pos cc).symm.trans h
    refine lv_iconst (v := (0 : Int32)) hx hb dX12_isOverfull_29 (by decide) ?_
    cases h
    exact r_bool F hr (Or.inl rfl) hW hS dX12_isOverfull_30
  · replace h := (if_neg cc).symm.trans h
    refine lv_aload_n hx hb dX12_isOverfull_12 rfl (lv_at hl 0 rfl) ?_
    refine fl_get12 (v := .ref (b + 320)) kyf_306 F hW 31 (by decide) q_1502 rfl rfl dX12_isOverfull_13 ?_
    refine lv_iload_n hx hb dX12_isOverfull_16 rfl (lv_at hl 1 rfl) ?_
    obtain ⟨v3, qv3, h⟩ := ob h
    refine fm_iald kyf_320 F hW qv3 dX12_isOverfull_17 ?_
    refine lv_aload_n hx hb dX12_isOverfull_18 rfl (lv_at hl 0 rfl) ?_
    refine fl_get12 (v := .int (r2.2.1 306 38)) kyf_306 F hW 38 (by decide) q_1509 rfl rfl dX12_isOverfull_19 ?_
    refine lv_icmp_le (tgt := 29) hx hb dX12_isOverfull_22 (by decide) (fun cc => ?_) (fun cc => ?_)
    · replace h := (if_pos cc).symm.trans h
      refine lv_iconst (v := (0 : Int32)) hx hb dX12_isOverfull_29 (by decide) ?_
      cases h
      exact r_bool F hr (Or.inl rfl) hW hS dX12_isOverfull_30
    · replace h := (if_neg cc).symm.trans h
      refine lv_iconst (v := (1 : Int32)) hx hb dX12_isOverfull_25 (by decide) ?_
      refine lv_goto (tgt := 30) hx hb dX12_isOverfull_26 (by decide) ?_
      cases h
      exact r_bool F hr (Or.inr rfl) hW hS dX12_isOverfull_30
set_option maxHeartbeats 4000000 in
set_option maxRecDepth 100000 in
theorem c_X12_isOverfull {l : Launch} {G : Gt} {b : Nat} {n : Nat} {a1 : Int32} {μ : Mm} {out : (Int32 × Mm)} (h : sh_X12_isOverfull n a1 μ = some out) : Met l yX12_isOverfull (wU (Cond.code yX12_isOverfull cX12_isOverfull 2 (some .boolean))) ({ frames := 10, cells := 0, slots := 0, locals := 226 } : Room) (PcW (fg G) b μ [.ref (b + 306), .int a1]) (QW (fg G) b out.2 (some (.int out.1))) 0 0 (fb b) :=
  met_of [.ref (b + 306), .int a1] (by decide) (Nat.le_of_ble_eq_true rfl) (fun F hr hW hl => wk_X12_isOverfull F hr h hW va_S.rf hl)
set_option maxHeartbeats 4000000 in
set_option maxRecDepth 100000 in
theorem k_X12_isOverfull {own : String} {nL : Nat} (F : FX (fg G) b own cc nL p s m args meth c) {n : Nat} {a1 : Int32} {μ : Mm} {out : (Int32 × Mm)} (h : sh_X12_isOverfull n a1 μ = some out) {index : Nat} (hl : Cond.methodLink own index yX12_isOverfull ∈ TBG) (hR : 10 + 1 ≤ R.frames ∧ 8 + (2 + 11) + 226 ≤ R.locals ∧ cells ≤ R.cells ∧ slots ≤ R.slots) (hW : WH (fg G) b μ H) (hS : va_S (fb b) s.heap H locs) (hsz : ls.size = nL) (hrest : (rest.map fun v => v.category).sum ≤ 8) (hdg : decode cc pc = .ok (.invokevirtual index, 3))
    (kk : ∀ (H1 : Heap) (locs1 : List Loc), WH (fg G) b out.2 H1 → va_S (fb b) s.heap H1 locs1 → W p l e R s m args below meth c H1 locs1 cells slots Q (F0 m (pc + 3) ls (.int out.1 :: rest))) : W p l e R s m args below meth c H locs cells slots Q (F0 m pc ls (.int a1 :: .ref (b + 306) :: rest)) :=
  f_callV (As := [.int a1]) (ci := 12) (c_X12_isOverfull h) ⟨rfl, rfl⟩ rfl (ky_lm kyf_306 (by decide)) (wF_12 kyf_306) q_1955 q_1956 q_14 q_1957 rfl ⟨by decide +kernel, by decide +kernel, (show (parseMethodDescriptor yX12_isOverfull.desc).map (fun d => d.parameters.length) = some 1 by decide +kernel)⟩ F hl hR hW hS hsz hrest rfl hdg kk
set_option maxHeartbeats 4000000 in
set_option maxRecDepth 100000 in
theorem wk_X12_overfulls_4 {n : Nat} {μ : Mm} {out : Int32} (F : FX (fg G) b RX12 cX12_overfulls 3 p s m args meth c) (hr : meth.sig.returnType = some .int) : ∀ (f : Nat) (x1 : Int32) (x2 : Int32) (H : Heap) (locs : List Loc) (ls : Array Slot), sh_X12_overfulls_4 n μ f x1 x2 = some out → WH (fg G) b μ H → va_S (fb b) s.heap H locs → lv_has ls 3 [(0, .ref (b + 306)), (1, .int x1), (2, .int x2)] → W p l e ({ frames := 0, cells := 0, slots := 0, locals := 0 } : Room) s m args below meth c H locs 0 0 (MQ below (QW (fg G) b μ (some (.int out))) args s 0 0 (fb b)) (F0 m 4 ls []) := by
  have hx := F.1
  have hb := F.2.1
  intro f
  induction f with
  | zero =>
    intro _ _ _ _ _ h
    rw [sh_X12_overfulls_4] at h
    cases h
  | succ f ih =>
    intro x1 x2  H locs ls h hW hS hl
    rw [sh_X12_overfulls_4] at h
    have hk4 := ih
    refine lv_iload_n hx hb dX12_overfulls_4 rfl (lv_at hl 2 rfl) ?_
    refine lv_aload_n hx hb dX12_overfulls_5 rfl (lv_at hl 0 rfl) ?_
    refine fl_get12 (v := .int (μ.1 306 36)) kyf_306 F hW 36 (by decide) q_1507 rfl rfl dX12_overfulls_6 ?_
    refine lv_icmp_ge (tgt := 39) hx hb dX12_overfulls_9 (by decide) (fun cc => ?_) (fun cc => ?_)
    · replace h := (if_pos cc).symm.trans h
      refine lv_iload_n hx hb dX12_overfulls_39 rfl (lv_at hl 1 rfl) ?_
      cases h
      exact r_int F hr hW hS dX12_overfulls_40
    · replace h := (if_neg cc).symm.trans h
      refine lv_iload_n hx hb dX12_overfulls_12 rfl (lv_at hl 1 rfl) ?_
      refine lv_aload_n hx hb dX12_overfulls_13 rfl (lv_at hl 0 rfl) ?_
      refine fl_get12 (v := .ref (b + 320)) kyf_306 F hW 31 (by decide) q_1502 rfl rfl dX12_overfulls_14 ?_
      refine lv_iload_n hx hb dX12_overfulls_17 rfl (lv_at hl 2 rfl) ?_
      obtain ⟨v1, qv1, h⟩ := ob h
      refine fm_iald kyf_320 F hW qv1 dX12_overfulls_18 ?_
      refine lv_aload_n hx hb dX12_overfulls_19 rfl (lv_at hl 0 rfl) ?_
      refine fl_get12 (v := .int (μ.1 306 38)) kyf_306 F hW 38 (by decide) q_1509 rfl rfl dX12_overfulls_20 ?_
      refine lv_icmp_le (tgt := 30) hx hb dX12_overfulls_23 (by decide) (fun cc => ?_) (fun cc => ?_)
      · replace h := (if_pos cc).symm.trans h
        refine lv_iconst (v := (0 : Int32)) hx hb dX12_overfulls_30 (by decide) ?_
        refine lv_iadd hx hb dX12_overfulls_31 ?_
        obtain ⟨v2, ev2⟩ : ∃ y, y = (x1 + (0 : Int32)) := ⟨_, rfl⟩
        have h := nm_at ev2 h
        rw [← ev2]
        refine lv_istore_n (lv' := [(1, .int v2), (0, .ref (b + 306)), (2, .int x2)]) hx hb dX12_overfulls_32 rfl hl (by decide) rfl (fun ls hl => ?_)
        refine lv_iinc (v := (x2 + (1 : Int32))) (lv' := [(2, .int (x2 + (1 : Int32))), (1, .int v2), (0, .ref (b + 306))]) hx hb dX12_overfulls_33 hl (k := 2) rfl rfl (by decide) rfl (fun ls hl => ?_)
        refine lv_goto (tgt := 4) hx hb dX12_overfulls_36 (by decide) ?_
        exact hk4 _ _ _ _ _ h hW hS (lv_sub hl [2, 1, 0] rfl)
      · replace h := (if_neg cc).symm.trans h
        refine lv_iconst (v := (1 : Int32)) hx hb dX12_overfulls_26 (by decide) ?_
        refine lv_goto (tgt := 31) hx hb dX12_overfulls_27 (by decide) ?_
        refine lv_iadd hx hb dX12_overfulls_31 ?_
        obtain ⟨v3, ev3⟩ : ∃ y, y = (x1 + (1 : Int32)) := ⟨_, rfl⟩
        have h := nm_at ev3 h
        rw [← ev3]
        refine lv_istore_n (lv' := [(1, .int v3), (0, .ref (b + 306)), (2, .int x2)]) hx hb dX12_overfulls_32 rfl hl (by decide) rfl (fun ls hl => ?_)
        refine lv_iinc (v := (x2 + (1 : Int32))) (lv' := [(2, .int (x2 + (1 : Int32))), (1, .int v3), (0, .ref (b + 306))]) hx hb dX12_overfulls_33 hl (k := 2) rfl rfl (by decide) rfl (fun ls hl => ?_)
        refine lv_goto (tgt := 4) hx hb dX12_overfulls_36 (by decide) ?_
        exact hk4 _ _ _ _ _ h hW hS (lv_sub hl [2, 1, 0] rfl)
set_option maxHeartbeats 4000000 in
set_option maxRecDepth 100000 in
theorem wk_X12_overfulls {n : Nat} {μ : Mm} {out : Int32} (F : FX (fg G) b RX12 cX12_overfulls 3 p s m args meth c) (hr : meth.sig.returnType = some .int) (h : sh_X12_overfulls n  μ = some out) (hW : WH (fg G) b μ H) (hS : va_S (fb b) s.heap H locs) (hl : lv_has ls 3 [(0, .ref (b + 306))]) : W p l e ({ frames := 0, cells := 0, slots := 0, locals := 0 } : Room) s m args below meth c H locs 0 0 (MQ below (QW (fg G) b μ (some (.int out))) args s 0 0 (fb b)) (F0 m 0 ls []) := by
  have hx := F.1
  have hb := F.2.1
  unfold sh_X12_overfulls at h
  refine lv_iconst (v := (0 : Int32)) hx hb dX12_overfulls_0 (by decide) ?_
  refine lv_istore_n (lv' := [(1, .int (0 : Int32)), (0, .ref (b + 306))]) hx hb dX12_overfulls_1 rfl hl (by decide) rfl (fun ls hl => ?_)
  refine lv_iconst (v := (0 : Int32)) hx hb dX12_overfulls_2 (by decide) ?_
  refine lv_istore_n (lv' := [(2, .int (0 : Int32)), (1, .int (0 : Int32)), (0, .ref (b + 306))]) hx hb dX12_overfulls_3 rfl hl (by decide) rfl (fun ls hl => ?_)
  exact wk_X12_overfulls_4 F hr n _ _ _ _ _ h hW hS (lv_sub hl [2, 1, 0] rfl)
set_option maxHeartbeats 4000000 in
set_option maxRecDepth 100000 in
theorem c_X12_overfulls {l : Launch} {G : Gt} {b : Nat} {n : Nat} {μ : Mm} {out : Int32} (h : sh_X12_overfulls n  μ = some out) : Met l yX12_overfulls (wU (Cond.code yX12_overfulls cX12_overfulls 3 (some .int))) ({ frames := 0, cells := 0, slots := 0, locals := 0 } : Room) (PcW (fg G) b μ [.ref (b + 306)]) (QW (fg G) b μ (some (.int out))) 0 0 (fb b) :=
  met_of [.ref (b + 306)] (by decide) (Nat.le_of_ble_eq_true rfl) (fun F hr hW hl => wk_X12_overfulls F hr h hW va_S.rf hl)
set_option maxHeartbeats 4000000 in
set_option maxRecDepth 100000 in
theorem k_X12_overfulls {own : String} {nL : Nat} (F : FX (fg G) b own cc nL p s m args meth c) {n : Nat} {μ : Mm} {out : Int32} (h : sh_X12_overfulls n  μ = some out) {index : Nat} (hl : Cond.methodLink own index yX12_overfulls ∈ TBG) (hR : 0 + 1 ≤ R.frames ∧ 8 + (3 + 11) + 0 ≤ R.locals ∧ cells ≤ R.cells ∧ slots ≤ R.slots) (hW : WH (fg G) b μ H) (hS : va_S (fb b) s.heap H locs) (hsz : ls.size = nL) (hrest : (rest.map fun v => v.category).sum ≤ 8) (hdg : decode cc pc = .ok (.invokevirtual index, 3))
    (kk : ∀ (H1 : Heap) (locs1 : List Loc), WH (fg G) b μ H1 → va_S (fb b) s.heap H1 locs1 → W p l e R s m args below meth c H1 locs1 cells slots Q (F0 m (pc + 3) ls (.int out :: rest))) : W p l e R s m args below meth c H locs cells slots Q (F0 m pc ls (.ref (b + 306) :: rest)) :=
  f_callV (As := []) (ci := 12) (c_X12_overfulls h) ⟨rfl, rfl⟩ rfl (ky_lm kyf_306 (by decide)) (wF_12 kyf_306) q_1964 qp_95 q_14 q_1965 rfl ⟨by decide +kernel, by decide +kernel, (show (parseMethodDescriptor yX12_overfulls.desc).map (fun d => d.parameters.length) = some 0 by decide +kernel)⟩ F hl hR hW hS hsz hrest rfl hdg kk
set_option maxHeartbeats 4000000 in
set_option maxRecDepth 100000 in
theorem wk_X12_overfullCount {n : Nat} {μ : Mm} {out : (Int32 × Mm)} (F : FX (fg G) b RX12 cX12_overfullCount 1 p s m args meth c) (hr : meth.sig.returnType = some .int) (h : sh_X12_overfullCount n  μ = some out) (hW : WH (fg G) b μ H) (hS : va_S (fb b) s.heap H locs) (hl : lv_has ls 1 [(0, .ref (b + 306))]) : W p l e ({ frames := 9, cells := 0, slots := 0, locals := 205 } : Room) s m args below meth c H locs 0 0 (MQ below (QW (fg G) b out.2 (some (.int out.1))) args s 0 0 (fb b)) (F0 m 0 ls []) := by
  have hx := F.1
  have hb := F.2.1
  unfold sh_X12_overfullCount at h
  refine lv_aload_n hx hb dX12_overfullCount_0 rfl (lv_at hl 0 rfl) ?_
  refine lv_iconst (v := (0 : Int32)) hx hb dX12_overfullCount_1 (by decide) ?_
  obtain ⟨μ1, hmμ1, h⟩ := ob h
  refine fl_put12_0 kyf_306 F hW hS q_1471 hmμ1 dX12_overfullCount_2 (fun H locs hW hS => ?_)
  refine lv_aload_n hx hb dX12_overfullCount_5 rfl (lv_at hl 0 rfl) ?_
  obtain ⟨r2, qr2, h⟩ := ob h
  refine k_X12_lay F qr2 q_1764 ⟨Nat.le_of_ble_eq_true rfl, Nat.le_of_ble_eq_true rfl, Nat.le_of_ble_eq_true rfl, Nat.le_of_ble_eq_true rfl⟩ hW hS hl.1 (Nat.le_of_ble_eq_true rfl) dX12_overfullCount_6 (fun H locs hW hS => ?_)
  refine lv_aload_n hx hb dX12_overfullCount_9 rfl (lv_at hl 0 rfl) ?_
  obtain ⟨r3, qr3, h⟩ := ob h
  refine k_X12_overfulls F qr3 q_1962 ⟨Nat.le_of_ble_eq_true rfl, Nat.le_of_ble_eq_true rfl, Nat.le_of_ble_eq_true rfl, Nat.le_of_ble_eq_true rfl⟩ hW hS hl.1 (Nat.le_of_ble_eq_true rfl) dX12_overfullCount_10 (fun H locs hW hS => ?_)
  cases h
  exact r_int F hr hW hS dX12_overfullCount_13
set_option maxHeartbeats 4000000 in
set_option maxRecDepth 100000 in
theorem c_X12_overfullCount {l : Launch} {G : Gt} {b : Nat} {n : Nat} {μ : Mm} {out : (Int32 × Mm)} (h : sh_X12_overfullCount n  μ = some out) : Met l yX12_overfullCount (wU (Cond.code yX12_overfullCount cX12_overfullCount 1 (some .int))) ({ frames := 9, cells := 0, slots := 0, locals := 205 } : Room) (PcW (fg G) b μ [.ref (b + 306)]) (QW (fg G) b out.2 (some (.int out.1))) 0 0 (fb b) :=
  met_of [.ref (b + 306)] (by decide) (Nat.le_of_ble_eq_true rfl) (fun F hr hW hl => wk_X12_overfullCount F hr h hW va_S.rf hl)
set_option maxHeartbeats 4000000 in
set_option maxRecDepth 100000 in
theorem k_X12_overfullCount {own : String} {nL : Nat} (F : FX (fg G) b own cc nL p s m args meth c) {n : Nat} {μ : Mm} {out : (Int32 × Mm)} (h : sh_X12_overfullCount n  μ = some out) {index : Nat} (hl : Cond.methodLink own index yX12_overfullCount ∈ TBG) (hR : 9 + 1 ≤ R.frames ∧ 8 + (1 + 11) + 205 ≤ R.locals ∧ cells ≤ R.cells ∧ slots ≤ R.slots) (hW : WH (fg G) b μ H) (hS : va_S (fb b) s.heap H locs) (hsz : ls.size = nL) (hrest : (rest.map fun v => v.category).sum ≤ 8) (hdg : decode cc pc = .ok (.invokevirtual index, 3))
    (kk : ∀ (H1 : Heap) (locs1 : List Loc), WH (fg G) b out.2 H1 → va_S (fb b) s.heap H1 locs1 → W p l e R s m args below meth c H1 locs1 cells slots Q (F0 m (pc + 3) ls (.int out.1 :: rest))) : W p l e R s m args below meth c H locs cells slots Q (F0 m pc ls (.ref (b + 306) :: rest)) :=
  f_callV (As := []) (ci := 12) (c_X12_overfullCount h) ⟨rfl, rfl⟩ rfl (ky_lm kyf_306 (by decide)) (wF_12 kyf_306) q_1959 q_1960 q_14 q_1961 rfl ⟨by decide +kernel, by decide +kernel, (show (parseMethodDescriptor yX12_overfullCount.desc).map (fun d => d.parameters.length) = some 0 by decide +kernel)⟩ F hl hR hW hS hsz hrest rfl hdg kk
set_option maxHeartbeats 4000000 in
set_option maxRecDepth 100000 in
theorem wk_X12_rounds {n : Nat} {μ : Mm} {out : (Int32 × Mm)} (F : FX (fg G) b RX12 cX12_rounds 1 p s m args meth c) (hr : meth.sig.returnType = some .int) (h : sh_X12_rounds n  μ = some out) (hW : WH (fg G) b μ H) (hS : va_S (fb b) s.heap H locs) (hl : lv_has ls 1 [(0, .ref (b + 306))]) : W p l e ({ frames := 9, cells := 0, slots := 0, locals := 205 } : Room) s m args below meth c H locs 0 0 (MQ below (QW (fg G) b out.2 (some (.int out.1))) args s 0 0 (fb b)) (F0 m 0 ls []) := by
  have hx := F.1
  have hb := F.2.1
  unfold sh_X12_rounds at h
  refine lv_aload_n hx hb dX12_rounds_0 rfl (lv_at hl 0 rfl) ?_
  refine lv_iconst (v := (0 : Int32)) hx hb dX12_rounds_1 (by decide) ?_
  obtain ⟨μ1, hmμ1, h⟩ := ob h
  refine fl_put12_0 kyf_306 F hW hS q_1471 hmμ1 dX12_rounds_2 (fun H locs hW hS => ?_)
  refine lv_aload_n hx hb dX12_rounds_5 rfl (lv_at hl 0 rfl) ?_
  obtain ⟨r2, qr2, h⟩ := ob h
  refine k_X12_lay F qr2 q_1764 ⟨Nat.le_of_ble_eq_true rfl, Nat.le_of_ble_eq_true rfl, Nat.le_of_ble_eq_true rfl, Nat.le_of_ble_eq_true rfl⟩ hW hS hl.1 (Nat.le_of_ble_eq_true rfl) dX12_rounds_6 (fun H locs hW hS => ?_)
  refine lv_aload_n hx hb dX12_rounds_9 rfl (lv_at hl 0 rfl) ?_
  refine fl_get12 (v := .int (r2.1 306 40)) kyf_306 F hW 40 (by decide) q_1511 rfl rfl dX12_rounds_10 ?_
  cases h
  exact r_int F hr hW hS dX12_rounds_13
set_option maxHeartbeats 4000000 in
set_option maxRecDepth 100000 in
theorem c_X12_rounds {l : Launch} {G : Gt} {b : Nat} {n : Nat} {μ : Mm} {out : (Int32 × Mm)} (h : sh_X12_rounds n  μ = some out) : Met l yX12_rounds (wU (Cond.code yX12_rounds cX12_rounds 1 (some .int))) ({ frames := 9, cells := 0, slots := 0, locals := 205 } : Room) (PcW (fg G) b μ [.ref (b + 306)]) (QW (fg G) b out.2 (some (.int out.1))) 0 0 (fb b) :=
  met_of [.ref (b + 306)] (by decide) (Nat.le_of_ble_eq_true rfl) (fun F hr hW hl => wk_X12_rounds F hr h hW va_S.rf hl)
set_option maxHeartbeats 4000000 in
set_option maxRecDepth 100000 in
theorem k_X12_rounds {own : String} {nL : Nat} (F : FX (fg G) b own cc nL p s m args meth c) {n : Nat} {μ : Mm} {out : (Int32 × Mm)} (h : sh_X12_rounds n  μ = some out) {index : Nat} (hl : Cond.methodLink own index yX12_rounds ∈ TBG) (hR : 9 + 1 ≤ R.frames ∧ 8 + (1 + 11) + 205 ≤ R.locals ∧ cells ≤ R.cells ∧ slots ≤ R.slots) (hW : WH (fg G) b μ H) (hS : va_S (fb b) s.heap H locs) (hsz : ls.size = nL) (hrest : (rest.map fun v => v.category).sum ≤ 8) (hdg : decode cc pc = .ok (.invokevirtual index, 3))
    (kk : ∀ (H1 : Heap) (locs1 : List Loc), WH (fg G) b out.2 H1 → va_S (fb b) s.heap H1 locs1 → W p l e R s m args below meth c H1 locs1 cells slots Q (F0 m (pc + 3) ls (.int out.1 :: rest))) : W p l e R s m args below meth c H locs cells slots Q (F0 m pc ls (.ref (b + 306) :: rest)) :=
  f_callV (As := []) (ci := 12) (c_X12_rounds h) ⟨rfl, rfl⟩ rfl (ky_lm kyf_306 (by decide)) (wF_12 kyf_306) q_1967 q_1968 q_14 q_1969 rfl ⟨by decide +kernel, by decide +kernel, (show (parseMethodDescriptor yX12_rounds.desc).map (fun d => d.parameters.length) = some 0 by decide +kernel)⟩ F hl hR hW hS hsz hrest rfl hdg kk
set_option maxHeartbeats 4000000 in
set_option maxRecDepth 100000 in
theorem wk_X12_layFigures_132 {n : Nat} {a1 : Int32} {a2 : Nat} {a3 : Int32} {k47 : (Int32 → Int32 → Mm → Option Mm)} {out : Mm} (F : FX (fg G) b RX12 cX12_layFigures 9 p s m args meth c) (hr : meth.sig.returnType = none) (ha2 : ky a2 = 24) (hk47 : ∀ (x4 : Int32) (x5 : Int32) (μ : Mm) (H : Heap) (locs : List Loc) (ls : Array Slot), k47 x4 x5 μ = some out → WH (fg G) b μ H → va_S (fb b) s.heap H locs → lv_has ls 9 [(0, .ref (b + 306)), (2, .ref (b + a2)), (3, .int a3), (4, .int x4), (5, .int x5)] → W p l e ({ frames := 2, cells := 0, slots := 0, locals := 44 } : Room) s m args below meth c H locs 0 0 (MQ below (QW (fg G) b out none) args s 0 0 (fb b)) (F0 m 47 ls [])) : ∀ (f : Nat) (x4 : Int32) (x5 : Int32) (x6 : Int32) (x7 : Int32) (x8 : Int32) (μ : Mm) (H : Heap) (locs : List Loc) (ls : Array Slot), sh_X12_layFigures_132 n a1 a2 a3 k47 f x4 x5 x6 x7 x8 μ = some out → WH (fg G) b μ H → va_S (fb b) s.heap H locs → lv_has ls 9 [(0, .ref (b + 306)), (2, .ref (b + a2)), (3, .int a3), (4, .int x4), (5, .int x5), (6, .int x6), (7, .int x7), (8, .int x8)] → W p l e ({ frames := 2, cells := 0, slots := 0, locals := 44 } : Room) s m args below meth c H locs 0 0 (MQ below (QW (fg G) b out none) args s 0 0 (fb b)) (F0 m 132 ls []) := by
  have hx := F.1
  have hb := F.2.1
  intro f
  induction f with
  | zero =>
    intro _ _ _ _ _ _ _ _ _ h
    rw [sh_X12_layFigures_132] at h
    cases h
  | succ f ih =>
    intro x4 x5 x6 x7 x8 μ H locs ls h hW hS hl
    rw [sh_X12_layFigures_132] at h
    have hk132 := ih
    refine lv_iload hx hb dX12_layFigures_132 (lv_at hl 7 rfl) ?_
    refine lv_iload hx hb dX12_layFigures_134 (lv_at hl 5 rfl) ?_
    obtain ⟨r6, qr6, h⟩ := ob h
    refine k_X12_widthOf F qr6 q_1820 ⟨Nat.le_of_ble_eq_true rfl, Nat.le_of_ble_eq_true rfl, Nat.le_of_ble_eq_true rfl, Nat.le_of_ble_eq_true rfl⟩ hW hS hl.1 (Nat.le_of_ble_eq_true rfl) dX12_layFigures_136 (fun H locs hW hS => ?_)
    refine lv_icmp_ge (tgt := 165) hx hb dX12_layFigures_139 (by decide) (fun cc => ?_) (fun cc => ?_)
    · replace h := (if_pos cc).symm.trans h
      refine lv_iinc (v := (x5 + (-1 : Int32))) (lv' := [(5, .int (x5 + (-1 : Int32))), (0, .ref (b + 306)), (2, .ref (b + a2)), (3, .int a3), (4, .int x4), (6, .int x6), (7, .int x7), (8, .int x8)]) hx hb dX12_layFigures_165 hl (k := 4) rfl rfl (by decide) rfl (fun ls hl => ?_)
      refine lv_goto (tgt := 47) hx hb dX12_layFigures_168 (by decide) ?_
      exact hk47 _ _ _ _ _ _ h hW hS (lv_sub hl [1, 2, 3, 4, 0] rfl)
    · replace h := (if_neg cc).symm.trans h
      refine lv_aload_n hx hb dX12_layFigures_142 rfl (lv_at hl 1 rfl) ?_
      refine lv_iload hx hb dX12_layFigures_143 (lv_at hl 3 rfl) ?_
      refine lv_iload hx hb dX12_layFigures_145 (lv_at hl 6 rfl) ?_
      refine lv_if_eq (tgt := 154) hx hb dX12_layFigures_147 (by decide) (fun cc => ?_) (fun cc => ?_)
      · replace h := (if_pos cc).symm.trans h
        refine lv_iconst (v := (0 : Int32)) hx hb dX12_layFigures_154 (by decide) ?_
        obtain ⟨μ7, qμ7, h⟩ := ob h
        refine fm_iast ha2 F hW hS qμ7 dX12_layFigures_155 (fun H locs hW hS => ?_)
        refine lv_iinc (v := (x4 + (1 : Int32))) (lv' := [(4, .int (x4 + (1 : Int32))), (0, .ref (b + 306)), (2, .ref (b + a2)), (3, .int a3), (5, .int x5), (6, .int x6), (7, .int x7), (8, .int x8)]) hx hb dX12_layFigures_156 hl (k := 3) rfl rfl (by decide) rfl (fun ls hl => ?_)
        refine lv_iinc (v := (x8 + (1 : Int32))) (lv' := [(8, .int (x8 + (1 : Int32))), (4, .int (x4 + (1 : Int32))), (0, .ref (b + 306)), (2, .ref (b + a2)), (3, .int a3), (5, .int x5), (6, .int x6), (7, .int x7)]) hx hb dX12_layFigures_159 hl (k := 7) rfl rfl (by decide) rfl (fun ls hl => ?_)
        refine lv_goto (tgt := 132) hx hb dX12_layFigures_162 (by decide) ?_
        exact hk132 _ _ _ _ _ _ _ _ _ h hW hS (lv_sub hl [2, 3, 4, 1, 5, 6, 7, 0] rfl)
      · replace h := (if_neg cc).symm.trans h
        refine lv_iconst (v := (1 : Int32)) hx hb dX12_layFigures_150 (by decide) ?_
        refine lv_goto (tgt := 155) hx hb dX12_layFigures_151 (by decide) ?_
        obtain ⟨μ8, qμ8, h⟩ := ob h
        refine fm_iast ha2 F hW hS qμ8 dX12_layFigures_155 (fun H locs hW hS => ?_)
        refine lv_iinc (v := (x4 + (1 : Int32))) (lv' := [(4, .int (x4 + (1 : Int32))), (0, .ref (b + 306)), (2, .ref (b + a2)), (3, .int a3), (5, .int x5), (6, .int x6), (7, .int x7), (8, .int x8)]) hx hb dX12_layFigures_156 hl (k := 3) rfl rfl (by decide) rfl (fun ls hl => ?_)
        refine lv_iinc (v := (x8 + (1 : Int32))) (lv' := [(8, .int (x8 + (1 : Int32))), (4, .int (x4 + (1 : Int32))), (0, .ref (b + 306)), (2, .ref (b + a2)), (3, .int a3), (5, .int x5), (6, .int x6), (7, .int x7)]) hx hb dX12_layFigures_159 hl (k := 7) rfl rfl (by decide) rfl (fun ls hl => ?_)
        refine lv_goto (tgt := 132) hx hb dX12_layFigures_162 (by decide) ?_
        exact hk132 _ _ _ _ _ _ _ _ _ h hW hS (lv_sub hl [2, 3, 4, 1, 5, 6, 7, 0] rfl)
set_option maxHeartbeats 4000000 in
set_option maxRecDepth 100000 in
theorem wk_X12_layFigures_47 {n : Nat} {a1 : Int32} {a2 : Nat} {a3 : Int32} {out : Mm} (F : FX (fg G) b RX12 cX12_layFigures 9 p s m args meth c) (hr : meth.sig.returnType = none) (ha2 : ky a2 = 24) : ∀ (f : Nat) (x4 : Int32) (x5 : Int32) (μ : Mm) (H : Heap) (locs : List Loc) (ls : Array Slot), sh_X12_layFigures_47 n a1 a2 a3 f x4 x5 μ = some out → WH (fg G) b μ H → va_S (fb b) s.heap H locs → lv_has ls 9 [(0, .ref (b + 306)), (2, .ref (b + a2)), (3, .int a3), (4, .int x4), (5, .int x5)] → W p l e ({ frames := 2, cells := 0, slots := 0, locals := 44 } : Room) s m args below meth c H locs 0 0 (MQ below (QW (fg G) b out none) args s 0 0 (fb b)) (F0 m 47 ls []) := by
  have hx := F.1
  have hb := F.2.1
  intro f
  induction f with
  | zero =>
    intro _ _ _ _ _ _ h
    rw [sh_X12_layFigures_47] at h
    cases h
  | succ f ih =>
    intro x4 x5 μ H locs ls h hW hS hl
    rw [sh_X12_layFigures_47] at h
    have hk47 := ih
    refine lv_iload hx hb dX12_layFigures_47 (lv_at hl 4 rfl) ?_
    refine lv_if_lt (tgt := 171) hx hb dX12_layFigures_49 (by decide) (fun cc => ?_) (fun cc => ?_)
    · replace h := (if_pos cc).symm.trans h
      cases h
      exact r_void F hr hW hS dX12_layFigures_171
    · replace h := (if_neg cc).symm.trans h
      refine lv_aload_n hx hb dX12_layFigures_52 rfl (lv_at hl 0 rfl) ?_
      refine fl_get12 (v := .ref (b + 310)) kyf_306 F hW 16 (by decide) q_1487 rfl rfl dX12_layFigures_53 ?_
      refine lv_iload hx hb dX12_layFigures_56 (lv_at hl 4 rfl) ?_
      obtain ⟨v5, qv5, h⟩ := ob h
      refine fm_bald kyf_310 F hW qv5 dX12_layFigures_58 ?_
      refine lv_istore (lv' := [(6, .int v5), (0, .ref (b + 306)), (2, .ref (b + a2)), (3, .int a3), (4, .int x4), (5, .int x5)]) hx hb dX12_layFigures_59 hl (by decide) rfl (fun ls hl => ?_)
      refine lv_iload_n hx hb dX12_layFigures_61 rfl (lv_at hl 3 rfl) ?_
      refine lv_if_eq (tgt := 87) hx hb dX12_layFigures_62 (by decide) (fun cc => ?_) (fun cc => ?_)
      · replace h := (if_pos cc).symm.trans h
        refine lv_iload hx hb dX12_layFigures_87 (lv_at hl 0 rfl) ?_
        refine lv_bipush (v := (51 : Int32)) hx hb dX12_layFigures_89 (by decide) ?_
        refine lv_icmp_eq (tgt := 122) hx hb dX12_layFigures_91 (by decide) (fun cc => ?_) (fun cc => ?_)
        · replace h := (if_pos cc).symm.trans h
          refine lv_iconst (v := (1 : Int32)) hx hb dX12_layFigures_122 (by decide) ?_
          refine lv_goto (tgt := 127) hx hb dX12_layFigures_123 (by decide) ?_
          refine lv_istore (lv' := [(7, .int (1 : Int32)), (6, .int v5), (0, .ref (b + 306)), (2, .ref (b + a2)), (3, .int a3), (4, .int x4), (5, .int x5)]) hx hb dX12_layFigures_127 hl (by decide) rfl (fun ls hl => ?_)
          refine lv_iconst (v := (0 : Int32)) hx hb dX12_layFigures_129 (by decide) ?_
          refine lv_istore (lv' := [(8, .int (0 : Int32)), (7, .int (1 : Int32)), (6, .int v5), (0, .ref (b + 306)), (2, .ref (b + a2)), (3, .int a3), (4, .int x4), (5, .int x5)]) hx hb dX12_layFigures_130 hl (by decide) rfl (fun ls hl => ?_)
          exact wk_X12_layFigures_132 F hr ha2 hk47 n _ _ _ _ _ _ _ _ _ h hW hS (lv_sub hl [3, 4, 5, 6, 7, 2, 1, 0] rfl)
        · replace h := (if_neg cc).symm.trans h
          refine lv_iload hx hb dX12_layFigures_94 (lv_at hl 0 rfl) ?_
          refine lv_bipush (v := (52 : Int32)) hx hb dX12_layFigures_96 (by decide) ?_
          refine lv_icmp_eq (tgt := 122) hx hb dX12_layFigures_98 (by decide) (fun cc => ?_) (fun cc => ?_)
          · replace h := (if_pos cc).symm.trans h
            refine lv_iconst (v := (1 : Int32)) hx hb dX12_layFigures_122 (by decide) ?_
            refine lv_goto (tgt := 127) hx hb dX12_layFigures_123 (by decide) ?_
            refine lv_istore (lv' := [(7, .int (1 : Int32)), (6, .int v5), (0, .ref (b + 306)), (2, .ref (b + a2)), (3, .int a3), (4, .int x4), (5, .int x5)]) hx hb dX12_layFigures_127 hl (by decide) rfl (fun ls hl => ?_)
            refine lv_iconst (v := (0 : Int32)) hx hb dX12_layFigures_129 (by decide) ?_
            refine lv_istore (lv' := [(8, .int (0 : Int32)), (7, .int (1 : Int32)), (6, .int v5), (0, .ref (b + 306)), (2, .ref (b + a2)), (3, .int a3), (4, .int x4), (5, .int x5)]) hx hb dX12_layFigures_130 hl (by decide) rfl (fun ls hl => ?_)
            exact wk_X12_layFigures_132 F hr ha2 hk47 n _ _ _ _ _ _ _ _ _ h hW hS (lv_sub hl [3, 4, 5, 6, 7, 2, 1, 0] rfl)
          · replace h := (if_neg cc).symm.trans h
            refine lv_iload hx hb dX12_layFigures_101 (lv_at hl 0 rfl) ?_
            refine lv_bipush (v := (53 : Int32)) hx hb dX12_layFigures_103 (by decide) ?_
            refine lv_icmp_eq (tgt := 122) hx hb dX12_layFigures_105 (by decide) (fun cc => ?_) (fun cc => ?_)
            · replace h := (if_pos cc).symm.trans h
              refine lv_iconst (v := (1 : Int32)) hx hb dX12_layFigures_122 (by decide) ?_
              refine lv_goto (tgt := 127) hx hb dX12_layFigures_123 (by decide) ?_
              refine lv_istore (lv' := [(7, .int (1 : Int32)), (6, .int v5), (0, .ref (b + 306)), (2, .ref (b + a2)), (3, .int a3), (4, .int x4), (5, .int x5)]) hx hb dX12_layFigures_127 hl (by decide) rfl (fun ls hl => ?_)
              refine lv_iconst (v := (0 : Int32)) hx hb dX12_layFigures_129 (by decide) ?_
              refine lv_istore (lv' := [(8, .int (0 : Int32)), (7, .int (1 : Int32)), (6, .int v5), (0, .ref (b + 306)), (2, .ref (b + a2)), (3, .int a3), (4, .int x4), (5, .int x5)]) hx hb dX12_layFigures_130 hl (by decide) rfl (fun ls hl => ?_)
              exact wk_X12_layFigures_132 F hr ha2 hk47 n _ _ _ _ _ _ _ _ _ h hW hS (lv_sub hl [3, 4, 5, 6, 7, 2, 1, 0] rfl)
            · replace h := (if_neg cc).symm.trans h
              refine lv_iload hx hb dX12_layFigures_108 (lv_at hl 0 rfl) ?_
              refine lv_bipush (v := (55 : Int32)) hx hb dX12_layFigures_110 (by decide) ?_
              refine lv_icmp_eq (tgt := 122) hx hb dX12_layFigures_112 (by decide) (fun cc => ?_) (fun cc => ?_)
              · replace h := (if_pos cc).symm.trans h
                refine lv_iconst (v := (1 : Int32)) hx hb dX12_layFigures_122 (by decide) ?_
                refine lv_goto (tgt := 127) hx hb dX12_layFigures_123 (by decide) ?_
                refine lv_istore (lv' := [(7, .int (1 : Int32)), (6, .int v5), (0, .ref (b + 306)), (2, .ref (b + a2)), (3, .int a3), (4, .int x4), (5, .int x5)]) hx hb dX12_layFigures_127 hl (by decide) rfl (fun ls hl => ?_)
                refine lv_iconst (v := (0 : Int32)) hx hb dX12_layFigures_129 (by decide) ?_
                refine lv_istore (lv' := [(8, .int (0 : Int32)), (7, .int (1 : Int32)), (6, .int v5), (0, .ref (b + 306)), (2, .ref (b + a2)), (3, .int a3), (4, .int x4), (5, .int x5)]) hx hb dX12_layFigures_130 hl (by decide) rfl (fun ls hl => ?_)
                exact wk_X12_layFigures_132 F hr ha2 hk47 n _ _ _ _ _ _ _ _ _ h hW hS (lv_sub hl [3, 4, 5, 6, 7, 2, 1, 0] rfl)
              · replace h := (if_neg cc).symm.trans h
                refine lv_iload hx hb dX12_layFigures_115 (lv_at hl 0 rfl) ?_
                refine lv_bipush (v := (57 : Int32)) hx hb dX12_layFigures_117 (by decide) ?_
                refine lv_icmp_ne (tgt := 126) hx hb dX12_layFigures_119 (by decide) (fun cc => ?_) (fun cc => ?_)
                · replace h := (if_neg cc).symm.trans h
                  refine lv_iconst (v := (0 : Int32)) hx hb dX12_layFigures_126 (by decide) ?_
                  refine lv_istore (lv' := [(7, .int (0 : Int32)), (6, .int v5), (0, .ref (b + 306)), (2, .ref (b + a2)), (3, .int a3), (4, .int x4), (5, .int x5)]) hx hb dX12_layFigures_127 hl (by decide) rfl (fun ls hl => ?_)
                  refine lv_iconst (v := (0 : Int32)) hx hb dX12_layFigures_129 (by decide) ?_
                  refine lv_istore (lv' := [(8, .int (0 : Int32)), (7, .int (0 : Int32)), (6, .int v5), (0, .ref (b + 306)), (2, .ref (b + a2)), (3, .int a3), (4, .int x4), (5, .int x5)]) hx hb dX12_layFigures_130 hl (by decide) rfl (fun ls hl => ?_)
                  exact wk_X12_layFigures_132 F hr ha2 hk47 n _ _ _ _ _ _ _ _ _ h hW hS (lv_sub hl [3, 4, 5, 6, 7, 2, 1, 0] rfl)
                · replace h := (if_pos cc).symm.trans h
                  refine lv_iconst (v := (1 : Int32)) hx hb dX12_layFigures_122 (by decide) ?_
                  refine lv_goto (tgt := 127) hx hb dX12_layFigures_123 (by decide) ?_
                  refine lv_istore (lv' := [(7, .int (1 : Int32)), (6, .int v5), (0, .ref (b + 306)), (2, .ref (b + a2)), (3, .int a3), (4, .int x4), (5, .int x5)]) hx hb dX12_layFigures_127 hl (by decide) rfl (fun ls hl => ?_)
                  refine lv_iconst (v := (0 : Int32)) hx hb dX12_layFigures_129 (by decide) ?_
                  refine lv_istore (lv' := [(8, .int (0 : Int32)), (7, .int (1 : Int32)), (6, .int v5), (0, .ref (b + 306)), (2, .ref (b + a2)), (3, .int a3), (4, .int x4), (5, .int x5)]) hx hb dX12_layFigures_130 hl (by decide) rfl (fun ls hl => ?_)
                  exact wk_X12_layFigures_132 F hr ha2 hk47 n _ _ _ _ _ _ _ _ _ h hW hS (lv_sub hl [3, 4, 5, 6, 7, 2, 1, 0] rfl)
      · replace h := (if_neg cc).symm.trans h
        refine lv_iload hx hb dX12_layFigures_65 (lv_at hl 0 rfl) ?_
        refine lv_bipush (v := (54 : Int32)) hx hb dX12_layFigures_67 (by decide) ?_
        refine lv_icmp_eq (tgt := 79) hx hb dX12_layFigures_69 (by decide) (fun cc => ?_) (fun cc => ?_)
        · replace h := (if_pos cc).symm.trans h
          refine lv_iconst (v := (1 : Int32)) hx hb dX12_layFigures_79 (by decide) ?_
          refine lv_goto (tgt := 127) hx hb dX12_layFigures_80 (by decide) ?_
          refine lv_istore (lv' := [(7, .int (1 : Int32)), (6, .int v5), (0, .ref (b + 306)), (2, .ref (b + a2)), (3, .int a3), (4, .int x4), (5, .int x5)]) hx hb dX12_layFigures_127 hl (by decide) rfl (fun ls hl => ?_)
          refine lv_iconst (v := (0 : Int32)) hx hb dX12_layFigures_129 (by decide) ?_
          refine lv_istore (lv' := [(8, .int (0 : Int32)), (7, .int (1 : Int32)), (6, .int v5), (0, .ref (b + 306)), (2, .ref (b + a2)), (3, .int a3), (4, .int x4), (5, .int x5)]) hx hb dX12_layFigures_130 hl (by decide) rfl (fun ls hl => ?_)
          exact wk_X12_layFigures_132 F hr ha2 hk47 n _ _ _ _ _ _ _ _ _ h hW hS (lv_sub hl [3, 4, 5, 6, 7, 2, 1, 0] rfl)
        · replace h := (if_neg cc).symm.trans h
          refine lv_iload hx hb dX12_layFigures_72 (lv_at hl 0 rfl) ?_
          refine lv_bipush (v := (56 : Int32)) hx hb dX12_layFigures_74 (by decide) ?_
          refine lv_icmp_ne (tgt := 83) hx hb dX12_layFigures_76 (by decide) (fun cc => ?_) (fun cc => ?_)
          · replace h := (if_neg cc).symm.trans h
            refine lv_iconst (v := (0 : Int32)) hx hb dX12_layFigures_83 (by decide) ?_
            refine lv_goto (tgt := 127) hx hb dX12_layFigures_84 (by decide) ?_
            refine lv_istore (lv' := [(7, .int (0 : Int32)), (6, .int v5), (0, .ref (b + 306)), (2, .ref (b + a2)), (3, .int a3), (4, .int x4), (5, .int x5)]) hx hb dX12_layFigures_127 hl (by decide) rfl (fun ls hl => ?_)
            refine lv_iconst (v := (0 : Int32)) hx hb dX12_layFigures_129 (by decide) ?_
            refine lv_istore (lv' := [(8, .int (0 : Int32)), (7, .int (0 : Int32)), (6, .int v5), (0, .ref (b + 306)), (2, .ref (b + a2)), (3, .int a3), (4, .int x4), (5, .int x5)]) hx hb dX12_layFigures_130 hl (by decide) rfl (fun ls hl => ?_)
            exact wk_X12_layFigures_132 F hr ha2 hk47 n _ _ _ _ _ _ _ _ _ h hW hS (lv_sub hl [3, 4, 5, 6, 7, 2, 1, 0] rfl)
          · replace h := (if_pos cc).symm.trans h
            refine lv_iconst (v := (1 : Int32)) hx hb dX12_layFigures_79 (by decide) ?_
            refine lv_goto (tgt := 127) hx hb dX12_layFigures_80 (by decide) ?_
            refine lv_istore (lv' := [(7, .int (1 : Int32)), (6, .int v5), (0, .ref (b + 306)), (2, .ref (b + a2)), (3, .int a3), (4, .int x4), (5, .int x5)]) hx hb dX12_layFigures_127 hl (by decide) rfl (fun ls hl => ?_)
            refine lv_iconst (v := (0 : Int32)) hx hb dX12_layFigures_129 (by decide) ?_
            refine lv_istore (lv' := [(8, .int (0 : Int32)), (7, .int (1 : Int32)), (6, .int v5), (0, .ref (b + 306)), (2, .ref (b + a2)), (3, .int a3), (4, .int x4), (5, .int x5)]) hx hb dX12_layFigures_130 hl (by decide) rfl (fun ls hl => ?_)
            exact wk_X12_layFigures_132 F hr ha2 hk47 n _ _ _ _ _ _ _ _ _ h hW hS (lv_sub hl [3, 4, 5, 6, 7, 2, 1, 0] rfl)
set_option maxHeartbeats 4000000 in
set_option maxRecDepth 100000 in
theorem wk_X12_layFigures_3 {n : Nat} {a1 : Int32} {a2 : Nat} {a3 : Int32} {out : Mm} (F : FX (fg G) b RX12 cX12_layFigures 9 p s m args meth c) (hr : meth.sig.returnType = none) (ha2 : ky a2 = 24) : ∀ (f : Nat) (x4 : Int32) (μ : Mm) (H : Heap) (locs : List Loc) (ls : Array Slot), sh_X12_layFigures_3 n a1 a2 a3 f x4 μ = some out → WH (fg G) b μ H → va_S (fb b) s.heap H locs → lv_has ls 9 [(0, .ref (b + 306)), (1, .int a1), (2, .ref (b + a2)), (3, .int a3), (4, .int x4)] → W p l e ({ frames := 2, cells := 0, slots := 0, locals := 44 } : Room) s m args below meth c H locs 0 0 (MQ below (QW (fg G) b out none) args s 0 0 (fb b)) (F0 m 3 ls []) := by
  have hx := F.1
  have hb := F.2.1
  intro f
  induction f with
  | zero =>
    intro _ _ _ _ _ h
    rw [sh_X12_layFigures_3] at h
    cases h
  | succ f ih =>
    intro x4 μ H locs ls h hW hS hl
    rw [sh_X12_layFigures_3] at h
    have hk3 := ih
    refine lv_iload hx hb dX12_layFigures_3 (lv_at hl 4 rfl) ?_
    refine lv_bipush (v := (32 : Int32)) hx hb dX12_layFigures_5 (by decide) ?_
    refine lv_icmp_ge (tgt := 21) hx hb dX12_layFigures_7 (by decide) (fun cc => ?_) (fun cc => ?_)
    · replace h := (if_pos cc).symm.trans h
      refine lv_aload_n hx hb dX12_layFigures_21 rfl (lv_at hl 0 rfl) ?_
      refine lv_iconst (v := (0 : Int32)) hx hb dX12_layFigures_22 (by decide) ?_
      obtain ⟨μ1, hmμ1, h⟩ := ob h
      refine fl_put12_17 kyf_306 F hW hS q_1488 hmμ1 dX12_layFigures_23 (fun H locs hW hS => ?_)
      refine lv_aload_n hx hb dX12_layFigures_26 rfl (lv_at hl 0 rfl) ?_
      refine lv_aload_n hx hb dX12_layFigures_27 rfl (lv_at hl 0 rfl) ?_
      refine fl_get12 (v := .ref (b + 314)) kyf_306 F hW 21 (by decide) q_1492 rfl rfl dX12_layFigures_28 ?_
      refine lv_iload_n hx hb dX12_layFigures_31 rfl (lv_at hl 1 rfl) ?_
      obtain ⟨v2, qv2, h⟩ := ob h
      refine fm_iald kyf_314 F hW qv2 dX12_layFigures_32 ?_
      obtain ⟨r3, qr3, h⟩ := ob h
      refine k_X12_putNumber F qr3 q_1812 ⟨Nat.le_of_ble_eq_true rfl, Nat.le_of_ble_eq_true rfl, Nat.le_of_ble_eq_true rfl, Nat.le_of_ble_eq_true rfl⟩ hW hS hl.1 (Nat.le_of_ble_eq_true rfl) dX12_layFigures_33 (fun H locs hW hS => ?_)
      refine lv_iconst (v := (0 : Int32)) hx hb dX12_layFigures_36 (by decide) ?_
      refine lv_istore (lv' := [(4, .int (0 : Int32)), (0, .ref (b + 306)), (1, .int a1), (2, .ref (b + a2)), (3, .int a3)]) hx hb dX12_layFigures_37 hl (by decide) rfl (fun ls hl => ?_)
      refine lv_aload_n hx hb dX12_layFigures_39 rfl (lv_at hl 1 rfl) ?_
      refine fl_get12 (v := .int (r3.1 306 17)) kyf_306 F hW 17 (by decide) q_1488 rfl rfl dX12_layFigures_40 ?_
      refine lv_iconst (v := (1 : Int32)) hx hb dX12_layFigures_43 (by decide) ?_
      refine lv_isub hx hb dX12_layFigures_44 ?_
      obtain ⟨v4, ev4⟩ : ∃ y, y = ((r3.1 306 17) - (1 : Int32)) := ⟨_, rfl⟩
      have h := nm_at ev4 h
      rw [← ev4]
      refine lv_istore (lv' := [(5, .int v4), (4, .int (0 : Int32)), (0, .ref (b + 306)), (1, .int a1), (2, .ref (b + a2)), (3, .int a3)]) hx hb dX12_layFigures_45 hl (by decide) rfl (fun ls hl => ?_)
      exact wk_X12_layFigures_47 F hr ha2 n _ _ _ _ _ _ h hW hS (lv_sub hl [2, 4, 5, 1, 0] rfl)
    · replace h := (if_neg cc).symm.trans h
      refine lv_aload_n hx hb dX12_layFigures_10 rfl (lv_at hl 2 rfl) ?_
      refine lv_iload hx hb dX12_layFigures_11 (lv_at hl 4 rfl) ?_
      refine lv_iconst (v := (0 : Int32)) hx hb dX12_layFigures_13 (by decide) ?_
      obtain ⟨μ9, qμ9, h⟩ := ob h
      refine fm_iast ha2 F hW hS qμ9 dX12_layFigures_14 (fun H locs hW hS => ?_)
      refine lv_iinc (v := (x4 + (1 : Int32))) (lv' := [(4, .int (x4 + (1 : Int32))), (0, .ref (b + 306)), (1, .int a1), (2, .ref (b + a2)), (3, .int a3)]) hx hb dX12_layFigures_15 hl (k := 4) rfl rfl (by decide) rfl (fun ls hl => ?_)
      refine lv_goto (tgt := 3) hx hb dX12_layFigures_18 (by decide) ?_
      exact hk3 _ _ _ _ _ h hW hS (lv_sub hl [1, 2, 3, 4, 0] rfl)
set_option maxHeartbeats 4000000 in
set_option maxRecDepth 100000 in
theorem wk_X12_layFigures {n : Nat} {a1 : Int32} {a2 : Nat} {a3 : Int32} {μ : Mm} {out : Mm} (F : FX (fg G) b RX12 cX12_layFigures 9 p s m args meth c) (hr : meth.sig.returnType = none) (ha2 : ky a2 = 24) (h : sh_X12_layFigures n a1 a2 a3 μ = some out) (hW : WH (fg G) b μ H) (hS : va_S (fb b) s.heap H locs) (hl : lv_has ls 9 [(0, .ref (b + 306)), (1, .int a1), (2, .ref (b + a2)), (3, .int a3)]) : W p l e ({ frames := 2, cells := 0, slots := 0, locals := 44 } : Room) s m args below meth c H locs 0 0 (MQ below (QW (fg G) b out none) args s 0 0 (fb b)) (F0 m 0 ls []) := by
  have hx := F.1
  have hb := F.2.1
  unfold sh_X12_layFigures at h
  refine lv_iconst (v := (0 : Int32)) hx hb dX12_layFigures_0 (by decide) ?_
  refine lv_istore (lv' := [(4, .int (0 : Int32)), (0, .ref (b + 306)), (1, .int a1), (2, .ref (b + a2)), (3, .int a3)]) hx hb dX12_layFigures_1 hl (by decide) rfl (fun ls hl => ?_)
  exact wk_X12_layFigures_3 F hr ha2 n _ _ _ _ _ h hW hS (lv_sub hl [1, 2, 3, 4, 0] rfl)
set_option maxHeartbeats 4000000 in
set_option maxRecDepth 100000 in
theorem c_X12_layFigures {l : Launch} {G : Gt} {b : Nat} {n : Nat} {a1 : Int32} {a2 : Nat} {a3 : Int32} {μ : Mm} {out : Mm} (ha2 : ky a2 = 24) (h : sh_X12_layFigures n a1 a2 a3 μ = some out) : Met l yX12_layFigures (wU (Cond.code yX12_layFigures cX12_layFigures 9 none)) ({ frames := 2, cells := 0, slots := 0, locals := 44 } : Room) (PcW (fg G) b μ [.ref (b + 306), .int a1, .ref (b + a2), .int a3]) (QW (fg G) b out none) 0 0 (fb b) :=
  met_of [.ref (b + 306), .int a1, .ref (b + a2), .int a3] (by decide) (Nat.le_of_ble_eq_true rfl) (fun F hr hW hl => wk_X12_layFigures F hr ha2 h hW va_S.rf hl)
set_option maxHeartbeats 4000000 in
set_option maxRecDepth 100000 in
theorem k_X12_layFigures {own : String} {nL : Nat} (F : FX (fg G) b own cc nL p s m args meth c) {n : Nat} {a1 : Int32} {a2 : Nat} {a3 : Int32} {μ : Mm} {out : Mm} (ha2 : ky a2 = 24) (h : sh_X12_layFigures n a1 a2 a3 μ = some out) {index : Nat} (hl : Cond.methodLink own index yX12_layFigures ∈ TBG) (hR : 2 + 1 ≤ R.frames ∧ 8 + (9 + 11) + 44 ≤ R.locals ∧ cells ≤ R.cells ∧ slots ≤ R.slots) (hW : WH (fg G) b μ H) (hS : va_S (fb b) s.heap H locs) (hsz : ls.size = nL) (hrest : (rest.map fun v => v.category).sum ≤ 8) (hdg : decode cc pc = .ok (.invokevirtual index, 3))
    (kk : ∀ (H1 : Heap) (locs1 : List Loc), WH (fg G) b out H1 → va_S (fb b) s.heap H1 locs1 → W p l e R s m args below meth c H1 locs1 cells slots Q (F0 m (pc + 3) ls (rest))) : W p l e R s m args below meth c H locs cells slots Q (F0 m pc ls (.int a3 :: .ref (b + a2) :: .int a1 :: .ref (b + 306) :: rest)) :=
  f_callV (As := [.int a1, .ref (b + a2), .int a3]) (ci := 12) (c_X12_layFigures ha2 h) ⟨rfl, rfl⟩ rfl (ky_lm kyf_306 (by decide)) (wF_12 kyf_306) q_1980 qp_97 q_14 q_1981 rfl ⟨by decide +kernel, by decide +kernel, (show (parseMethodDescriptor yX12_layFigures.desc).map (fun d => d.parameters.length) = some 3 by decide +kernel)⟩ F hl hR hW hS hsz hrest rfl hdg kk
set_option maxHeartbeats 4000000 in
set_option maxRecDepth 100000 in
theorem wk_X12_collide_115 {n : Nat} {a1 : Int32} {out : (Int32 × Mm)} (F : FX (fg G) b RX12 cX12_collide 6 p s m args meth c) (hr : meth.sig.returnType = some .boolean) : ∀ (f : Nat) (x4 : Int32) (x5 : Int32) (μ : Mm) (H : Heap) (locs : List Loc) (ls : Array Slot), sh_X12_collide_115 n a1 f x4 x5 μ = some out → WH (fg G) b μ H → va_S (fb b) s.heap H locs → lv_has ls 6 [(0, .ref (b + 306)), (4, .int x4), (5, .int x5)] → W p l e ({ frames := 3, cells := 0, slots := 0, locals := 72 } : Room) s m args below meth c H locs 0 0 (MQ below (QW (fg G) b out.2 (some (.int out.1))) args s 0 0 (fb b)) (F0 m 115 ls []) := by
  have hx := F.1
  have hb := F.2.1
  intro f
  induction f with
  | zero =>
    intro _ _ _ _ _ _ h
    rw [sh_X12_collide_115] at h
    cases h
  | succ f ih =>
    intro x4 x5 μ H locs ls h hW hS hl
    rw [sh_X12_collide_115] at h
    have hk115 := ih
    refine lv_iload hx hb dX12_collide_115 (lv_at hl 2 rfl) ?_
    refine lv_bipush (v := (32 : Int32)) hx hb dX12_collide_117 (by decide) ?_
    refine lv_icmp_ge (tgt := 159) hx hb dX12_collide_119 (by decide) (fun cc => ?_) (fun cc => ?_)
    · replace h := (if_pos cc).symm.trans h
      refine lv_iload hx hb dX12_collide_159 (lv_at hl 1 rfl) ?_
      obtain ⟨v13, qv13, h⟩ := ob h
      obtain ⟨zv13, qv13⟩ := isB_some qv13
      rw [qv13] at zv13
      rw [qv13]
      cases h
      exact r_bool F hr zv13 hW hS dX12_collide_161
    · replace h := (if_neg cc).symm.trans h
      refine lv_iload hx hb dX12_collide_122 (lv_at hl 1 rfl) ?_
      refine lv_if_ne (tgt := 146) hx hb dX12_collide_124 (by decide) (fun cc => ?_) (fun cc => ?_)
      · replace h := (if_neg cc).symm.trans h
        refine lv_iconst (v := (1 : Int32)) hx hb dX12_collide_146 (by decide) ?_
        refine lv_goto (tgt := 151) hx hb dX12_collide_147 (by decide) ?_
        refine lv_istore (lv' := [(4, .int (1 : Int32)), (0, .ref (b + 306)), (5, .int x5)]) hx hb dX12_collide_151 hl (by decide) rfl (fun ls hl => ?_)
        refine lv_iinc (v := (x5 + (1 : Int32))) (lv' := [(5, .int (x5 + (1 : Int32))), (4, .int (1 : Int32)), (0, .ref (b + 306))]) hx hb dX12_collide_153 hl (k := 2) rfl rfl (by decide) rfl (fun ls hl => ?_)
        refine lv_goto (tgt := 115) hx hb dX12_collide_156 (by decide) ?_
        exact hk115 _ _ _ _ _ _ h hW hS (lv_sub hl [2, 1, 0] rfl)
      · replace h := (if_pos cc).symm.trans h
        refine lv_aload_n hx hb dX12_collide_127 rfl (lv_at hl 0 rfl) ?_
        refine fl_get12 (v := .ref (b + 326)) kyf_306 F hW 42 (by decide) q_1513 rfl rfl dX12_collide_128 ?_
        refine lv_iload hx hb dX12_collide_131 (lv_at hl 2 rfl) ?_
        obtain ⟨v14, qv14, h⟩ := ob h
        refine fm_iald kyf_326 F hW qv14 dX12_collide_133 ?_
        refine lv_aload_n hx hb dX12_collide_134 rfl (lv_at hl 0 rfl) ?_
        refine fl_get12 (v := .ref (b + 325)) kyf_306 F hW 41 (by decide) q_1512 rfl rfl dX12_collide_135 ?_
        refine lv_iload hx hb dX12_collide_138 (lv_at hl 2 rfl) ?_
        obtain ⟨v15, qv15, h⟩ := ob h
        refine fm_iald kyf_325 F hW qv15 dX12_collide_140 ?_
        refine lv_iadd hx hb dX12_collide_141 ?_
        refine lv_iconst (v := (2 : Int32)) hx hb dX12_collide_142 (by decide) ?_
        refine lv_icmp_ne (tgt := 150) hx hb dX12_collide_143 (by decide) (fun cc => ?_) (fun cc => ?_)
        · replace h := (if_neg cc).symm.trans h
          refine lv_iconst (v := (0 : Int32)) hx hb dX12_collide_150 (by decide) ?_
          refine lv_istore (lv' := [(4, .int (0 : Int32)), (0, .ref (b + 306)), (5, .int x5)]) hx hb dX12_collide_151 hl (by decide) rfl (fun ls hl => ?_)
          refine lv_iinc (v := (x5 + (1 : Int32))) (lv' := [(5, .int (x5 + (1 : Int32))), (4, .int (0 : Int32)), (0, .ref (b + 306))]) hx hb dX12_collide_153 hl (k := 2) rfl rfl (by decide) rfl (fun ls hl => ?_)
          refine lv_goto (tgt := 115) hx hb dX12_collide_156 (by decide) ?_
          exact hk115 _ _ _ _ _ _ h hW hS (lv_sub hl [2, 1, 0] rfl)
        · replace h := (if_pos cc).symm.trans h
          refine lv_iconst (v := (1 : Int32)) hx hb dX12_collide_146 (by decide) ?_
          refine lv_goto (tgt := 151) hx hb dX12_collide_147 (by decide) ?_
          refine lv_istore (lv' := [(4, .int (1 : Int32)), (0, .ref (b + 306)), (5, .int x5)]) hx hb dX12_collide_151 hl (by decide) rfl (fun ls hl => ?_)
          refine lv_iinc (v := (x5 + (1 : Int32))) (lv' := [(5, .int (x5 + (1 : Int32))), (4, .int (1 : Int32)), (0, .ref (b + 306))]) hx hb dX12_collide_153 hl (k := 2) rfl rfl (by decide) rfl (fun ls hl => ?_)
          refine lv_goto (tgt := 115) hx hb dX12_collide_156 (by decide) ?_
          exact hk115 _ _ _ _ _ _ h hW hS (lv_sub hl [2, 1, 0] rfl)
set_option maxHeartbeats 4000000 in
set_option maxRecDepth 100000 in
theorem wk_X12_collide {n : Nat} {a1 : Int32} {μ : Mm} {out : (Int32 × Mm)} (F : FX (fg G) b RX12 cX12_collide 6 p s m args meth c) (hr : meth.sig.returnType = some .boolean) (h : sh_X12_collide n a1 μ = some out) (hW : WH (fg G) b μ H) (hS : va_S (fb b) s.heap H locs) (hl : lv_has ls 6 [(0, .ref (b + 306)), (1, .int a1)]) : W p l e ({ frames := 3, cells := 0, slots := 0, locals := 72 } : Room) s m args below meth c H locs 0 0 (MQ below (QW (fg G) b out.2 (some (.int out.1))) args s 0 0 (fb b)) (F0 m 0 ls []) := by
  have hx := F.1
  have hb := F.2.1
  unfold sh_X12_collide at h
  refine lv_iload_n hx hb dX12_collide_0 rfl (lv_at hl 1 rfl) ?_
  refine lv_iconst (v := (1 : Int32)) hx hb dX12_collide_1 (by decide) ?_
  refine lv_iadd hx hb dX12_collide_2 ?_
  refine lv_aload_n hx hb dX12_collide_3 rfl (lv_at hl 0 rfl) ?_
  refine fl_get12 (v := .int (μ.1 306 36)) kyf_306 F hW 36 (by decide) q_1507 rfl rfl dX12_collide_4 ?_
  refine lv_icmp_ge (tgt := 51) hx hb dX12_collide_7 (by decide) (fun cc => ?_) (fun cc => ?_)
  · replace h := (if_pos cc).symm.trans h
    refine lv_iconst (v := (0 : Int32)) hx hb dX12_collide_51 (by decide) ?_
    cases h
    exact r_bool F hr (Or.inl rfl) hW hS dX12_collide_52
  · replace h := (if_neg cc).symm.trans h
    refine lv_iload_n hx hb dX12_collide_10 rfl (lv_at hl 1 rfl) ?_
    refine lv_aload_n hx hb dX12_collide_11 rfl (lv_at hl 0 rfl) ?_
    refine fl_get12 (v := .ref (b + 307)) kyf_306 F hW 1 (by decide) q_1472 rfl rfl dX12_collide_12 ?_
    refine lv_iconst (v := (1 : Int32)) hx hb dX12_collide_15 (by decide) ?_
    obtain ⟨v1, qv1, h⟩ := ob h
    refine fm_iald kyf_307 F hW qv1 dX12_collide_16 ?_
    obtain ⟨v2, qv2, h⟩ := ob h
    obtain ⟨zv2, qv2⟩ := dv_some qv2
    refine lv_idiv hx hb dX12_collide_17 zv2 ?_
    rw [qv2]
    refine lv_iload_n hx hb dX12_collide_18 rfl (lv_at hl 1 rfl) ?_
    refine lv_iconst (v := (1 : Int32)) hx hb dX12_collide_19 (by decide) ?_
    refine lv_iadd hx hb dX12_collide_20 ?_
    refine lv_aload_n hx hb dX12_collide_21 rfl (lv_at hl 0 rfl) ?_
    refine fl_get12 (v := .ref (b + 307)) kyf_306 F hW 1 (by decide) q_1472 rfl rfl dX12_collide_22 ?_
    refine lv_iconst (v := (1 : Int32)) hx hb dX12_collide_25 (by decide) ?_
    obtain ⟨v3, qv3, h⟩ := ob h
    refine fm_iald kyf_307 F hW qv3 dX12_collide_26 ?_
    obtain ⟨v4, qv4, h⟩ := ob h
    obtain ⟨zv4, qv4⟩ := dv_some qv4
    refine lv_idiv hx hb dX12_collide_27 zv4 ?_
    rw [qv4]
    refine lv_icmp_ne (tgt := 51) hx hb dX12_collide_28 (by decide) (fun cc => ?_) (fun cc => ?_)
    · replace h := (if_neg cc).symm.trans h
      refine lv_iconst (v := (0 : Int32)) hx hb dX12_collide_51 (by decide) ?_
      cases h
      exact r_bool F hr (Or.inl rfl) hW hS dX12_collide_52
    · replace h := (if_pos cc).symm.trans h
      refine lv_aload_n hx hb dX12_collide_31 rfl (lv_at hl 0 rfl) ?_
      refine fl_get12 (v := .ref (b + 321)) kyf_306 F hW 32 (by decide) q_1503 rfl rfl dX12_collide_32 ?_
      refine lv_iload_n hx hb dX12_collide_35 rfl (lv_at hl 1 rfl) ?_
      obtain ⟨v5, qv5, h⟩ := ob h
      refine fm_zald kyf_321 F hW qv5 dX12_collide_36 ?_
      refine lv_if_eq (tgt := 51) hx hb dX12_collide_37 (by decide) (fun cc => ?_) (fun cc => ?_)
      · replace h := (if_pos cc).symm.trans h
        refine lv_iconst (v := (0 : Int32)) hx hb dX12_collide_51 (by decide) ?_
        cases h
        exact r_bool F hr (Or.inl rfl) hW hS dX12_collide_52
      · replace h := (if_neg cc).symm.trans h
        refine lv_aload_n hx hb dX12_collide_40 rfl (lv_at hl 0 rfl) ?_
        refine fl_get12 (v := .ref (b + 321)) kyf_306 F hW 32 (by decide) q_1503 rfl rfl dX12_collide_41 ?_
        refine lv_iload_n hx hb dX12_collide_44 rfl (lv_at hl 1 rfl) ?_
        refine lv_iconst (v := (1 : Int32)) hx hb dX12_collide_45 (by decide) ?_
        refine lv_iadd hx hb dX12_collide_46 ?_
        obtain ⟨v6, qv6, h⟩ := ob h
        refine fm_zald kyf_321 F hW qv6 dX12_collide_47 ?_
        refine lv_if_ne (tgt := 53) hx hb dX12_collide_48 (by decide) (fun cc => ?_) (fun cc => ?_)
        · replace h := (if_neg cc).symm.trans h
          refine lv_aload_n hx hb dX12_collide_53 rfl (lv_at hl 0 rfl) ?_
          refine fl_get12 (v := .ref (b + 316)) kyf_306 F hW 27 (by decide) q_1498 rfl rfl dX12_collide_54 ?_
          refine lv_iload_n hx hb dX12_collide_57 rfl (lv_at hl 1 rfl) ?_
          obtain ⟨v7, qv7, h⟩ := ob h
          refine fm_iald kyf_316 F hW qv7 dX12_collide_58 ?_
          refine lv_istore_n (lv' := [(2, .int v7), (0, .ref (b + 306)), (1, .int a1)]) hx hb dX12_collide_59 rfl hl (by decide) rfl (fun ls hl => ?_)
          refine lv_aload_n hx hb dX12_collide_60 rfl (lv_at hl 1 rfl) ?_
          refine fl_get12 (v := .ref (b + 316)) kyf_306 F hW 27 (by decide) q_1498 rfl rfl dX12_collide_61 ?_
          refine lv_iload_n hx hb dX12_collide_64 rfl (lv_at hl 2 rfl) ?_
          refine lv_iconst (v := (1 : Int32)) hx hb dX12_collide_65 (by decide) ?_
          refine lv_iadd hx hb dX12_collide_66 ?_
          obtain ⟨v8, qv8, h⟩ := ob h
          refine fm_iald kyf_316 F hW qv8 dX12_collide_67 ?_
          refine lv_istore_n (lv' := [(3, .int v8), (2, .int v7), (0, .ref (b + 306)), (1, .int a1)]) hx hb dX12_collide_68 rfl hl (by decide) rfl (fun ls hl => ?_)
          refine lv_aload_n hx hb dX12_collide_69 rfl (lv_at hl 2 rfl) ?_
          refine lv_iload_n hx hb dX12_collide_70 rfl (lv_at hl 1 rfl) ?_
          refine lv_iconst (v := (2 : Int32)) hx hb dX12_collide_71 (by decide) ?_
          obtain ⟨r9, qr9, h⟩ := ob h
          refine k_X12_of F qr9 q_1735 ⟨Nat.le_of_ble_eq_true rfl, Nat.le_of_ble_eq_true rfl, Nat.le_of_ble_eq_true rfl, Nat.le_of_ble_eq_true rfl⟩ hW hS hl.1 (Nat.le_of_ble_eq_true rfl) dX12_collide_72 (fun H locs hW hS => ?_)
          refine lv_if_eq (tgt := 87) hx hb dX12_collide_75 (by decide) (fun cc => ?_) (fun cc => ?_)
          · replace h := (if_pos cc).symm.trans h
            refine lv_iconst (v := (0 : Int32)) hx hb dX12_collide_87 (by decide) ?_
            cases h
            exact r_bool F hr (Or.inl rfl) hW hS dX12_collide_88
          · replace h := (if_neg cc).symm.trans h
            refine lv_aload_n hx hb dX12_collide_78 rfl (lv_at hl 2 rfl) ?_
            refine lv_iload_n hx hb dX12_collide_79 rfl (lv_at hl 0 rfl) ?_
            refine lv_iconst (v := (2 : Int32)) hx hb dX12_collide_80 (by decide) ?_
            obtain ⟨r10, qr10, h⟩ := ob h
            refine k_X12_of F qr10 q_1735 ⟨Nat.le_of_ble_eq_true rfl, Nat.le_of_ble_eq_true rfl, Nat.le_of_ble_eq_true rfl, Nat.le_of_ble_eq_true rfl⟩ hW hS hl.1 (Nat.le_of_ble_eq_true rfl) dX12_collide_81 (fun H locs hW hS => ?_)
            refine lv_if_ne (tgt := 89) hx hb dX12_collide_84 (by decide) (fun cc => ?_) (fun cc => ?_)
            · replace h := (if_neg cc).symm.trans h
              refine lv_aload_n hx hb dX12_collide_89 rfl (lv_at hl 2 rfl) ?_
              refine lv_iload_n hx hb dX12_collide_90 rfl (lv_at hl 1 rfl) ?_
              refine lv_aload_n hx hb dX12_collide_91 rfl (lv_at hl 2 rfl) ?_
              refine fl_get12 (v := .ref (b + 326)) kyf_306 F hW 42 (by decide) q_1513 rfl rfl dX12_collide_92 ?_
              refine lv_iconst (v := (0 : Int32)) hx hb dX12_collide_95 (by decide) ?_
              obtain ⟨r11, qr11, h⟩ := ob h
              refine k_X12_layFigures F kyf_326 qr11 q_1978 ⟨Nat.le_of_ble_eq_true rfl, Nat.le_of_ble_eq_true rfl, Nat.le_of_ble_eq_true rfl, Nat.le_of_ble_eq_true rfl⟩ hW hS hl.1 (Nat.le_of_ble_eq_true rfl) dX12_collide_96 (fun H locs hW hS => ?_)
              refine lv_aload_n hx hb dX12_collide_99 rfl (lv_at hl 2 rfl) ?_
              refine lv_iload_n hx hb dX12_collide_100 rfl (lv_at hl 0 rfl) ?_
              refine lv_aload_n hx hb dX12_collide_101 rfl (lv_at hl 2 rfl) ?_
              refine fl_get12 (v := .ref (b + 325)) kyf_306 F hW 41 (by decide) q_1512 rfl rfl dX12_collide_102 ?_
              refine lv_iconst (v := (1 : Int32)) hx hb dX12_collide_105 (by decide) ?_
              obtain ⟨r12, qr12, h⟩ := ob h
              refine k_X12_layFigures F kyf_325 qr12 q_1978 ⟨Nat.le_of_ble_eq_true rfl, Nat.le_of_ble_eq_true rfl, Nat.le_of_ble_eq_true rfl, Nat.le_of_ble_eq_true rfl⟩ hW hS hl.1 (Nat.le_of_ble_eq_true rfl) dX12_collide_106 (fun H locs hW hS => ?_)
              refine lv_iconst (v := (0 : Int32)) hx hb dX12_collide_109 (by decide) ?_
              refine lv_istore (lv' := [(4, .int (0 : Int32)), (3, .int v8), (2, .int v7), (0, .ref (b + 306)), (1, .int a1)]) hx hb dX12_collide_110 hl (by decide) rfl (fun ls hl => ?_)
              refine lv_iconst (v := (0 : Int32)) hx hb dX12_collide_112 (by decide) ?_
              refine lv_istore (lv' := [(5, .int (0 : Int32)), (4, .int (0 : Int32)), (3, .int v8), (2, .int v7), (0, .ref (b + 306)), (1, .int a1)]) hx hb dX12_collide_113 hl (by decide) rfl (fun ls hl => ?_)
              exact wk_X12_collide_115 F hr n _ _ _ _ _ _ h hW hS (lv_sub hl [4, 1, 0] rfl)
            · replace h := (if_pos cc).symm.trans h
              refine lv_iconst (v := (0 : Int32)) hx hb dX12_collide_87 (by decide) ?_
              cases h
              exact r_bool F hr (Or.inl rfl) hW hS dX12_collide_88
        · replace h := (if_pos cc).symm.trans h
          refine lv_iconst (v := (0 : Int32)) hx hb dX12_collide_51 (by decide) ?_
          cases h
          exact r_bool F hr (Or.inl rfl) hW hS dX12_collide_52
set_option maxHeartbeats 4000000 in
set_option maxRecDepth 100000 in
theorem c_X12_collide {l : Launch} {G : Gt} {b : Nat} {n : Nat} {a1 : Int32} {μ : Mm} {out : (Int32 × Mm)} (h : sh_X12_collide n a1 μ = some out) : Met l yX12_collide (wU (Cond.code yX12_collide cX12_collide 6 (some .boolean))) ({ frames := 3, cells := 0, slots := 0, locals := 72 } : Room) (PcW (fg G) b μ [.ref (b + 306), .int a1]) (QW (fg G) b out.2 (some (.int out.1))) 0 0 (fb b) :=
  met_of [.ref (b + 306), .int a1] (by decide) (Nat.le_of_ble_eq_true rfl) (fun F hr hW hl => wk_X12_collide F hr h hW va_S.rf hl)
set_option maxHeartbeats 4000000 in
set_option maxRecDepth 100000 in
theorem k_X12_collide {own : String} {nL : Nat} (F : FX (fg G) b own cc nL p s m args meth c) {n : Nat} {a1 : Int32} {μ : Mm} {out : (Int32 × Mm)} (h : sh_X12_collide n a1 μ = some out) {index : Nat} (hl : Cond.methodLink own index yX12_collide ∈ TBG) (hR : 3 + 1 ≤ R.frames ∧ 8 + (6 + 11) + 72 ≤ R.locals ∧ cells ≤ R.cells ∧ slots ≤ R.slots) (hW : WH (fg G) b μ H) (hS : va_S (fb b) s.heap H locs) (hsz : ls.size = nL) (hrest : (rest.map fun v => v.category).sum ≤ 8) (hdg : decode cc pc = .ok (.invokevirtual index, 3))
    (kk : ∀ (H1 : Heap) (locs1 : List Loc), WH (fg G) b out.2 H1 → va_S (fb b) s.heap H1 locs1 → W p l e R s m args below meth c H1 locs1 cells slots Q (F0 m (pc + 3) ls (.int out.1 :: rest))) : W p l e R s m args below meth c H locs cells slots Q (F0 m pc ls (.int a1 :: .ref (b + 306) :: rest)) :=
  f_callV (As := [.int a1]) (ci := 12) (c_X12_collide h) ⟨rfl, rfl⟩ rfl (ky_lm kyf_306 (by decide)) (wF_12 kyf_306) q_1976 qp_96 q_14 q_1977 rfl ⟨by decide +kernel, by decide +kernel, (show (parseMethodDescriptor yX12_collide.desc).map (fun d => d.parameters.length) = some 1 by decide +kernel)⟩ F hl hR hW hS hsz hrest rfl hdg kk
set_option maxHeartbeats 4000000 in
set_option maxRecDepth 100000 in
theorem wk_X12_collides {n : Nat} {a1 : Int32} {μ : Mm} {out : (Int32 × Mm)} (F : FX (fg G) b RX12 cX12_collides 2 p s m args meth c) (hr : meth.sig.returnType = some .boolean) (h : sh_X12_collides n a1 μ = some out) (hW : WH (fg G) b μ H) (hS : va_S (fb b) s.heap H locs) (hl : lv_has ls 2 [(0, .ref (b + 306)), (1, .int a1)]) : W p l e ({ frames := 10, cells := 0, slots := 0, locals := 226 } : Room) s m args below meth c H locs 0 0 (MQ below (QW (fg G) b out.2 (some (.int out.1))) args s 0 0 (fb b)) (F0 m 0 ls []) := by
  have hx := F.1
  have hb := F.2.1
  unfold sh_X12_collides at h
  refine lv_aload_n hx hb dX12_collides_0 rfl (lv_at hl 0 rfl) ?_
  refine lv_aload_n hx hb dX12_collides_1 rfl (lv_at hl 0 rfl) ?_
  refine lv_iload_n hx hb dX12_collides_2 rfl (lv_at hl 1 rfl) ?_
  obtain ⟨r1, qr1, h⟩ := ob h
  refine k_X12_isLine F qr1 q_1937 ⟨Nat.le_of_ble_eq_true rfl, Nat.le_of_ble_eq_true rfl, Nat.le_of_ble_eq_true rfl, Nat.le_of_ble_eq_true rfl⟩ hW hS hl.1 (Nat.le_of_ble_eq_true rfl) dX12_collides_3 (fun H locs hW hS => ?_)
  obtain ⟨r2, qr2, h⟩ := ob h
  refine k_X12_passes F qr2 q_1627 ⟨Nat.le_of_ble_eq_true rfl, Nat.le_of_ble_eq_true rfl, Nat.le_of_ble_eq_true rfl, Nat.le_of_ble_eq_true rfl⟩ hW hS hl.1 (Nat.le_of_ble_eq_true rfl) dX12_collides_6 (fun H locs hW hS => ?_)
  refine lv_if_eq (tgt := 24) hx hb dX12_collides_9 (by decide) (fun cc => ?_) (fun cc => ?_)
  · replace h := (if_pos cc).symm.trans h
    refine lv_iconst (v := (0 : Int32)) hx hb dX12_collides_24 (by decide) ?_
    cases h
    exact r_bool F hr (Or.inl rfl) hW hS dX12_collides_25
  · replace h := (if_neg cc).symm.trans h
    refine lv_aload_n hx hb dX12_collides_12 rfl (lv_at hl 0 rfl) ?_
    refine lv_iload_n hx hb dX12_collides_13 rfl (lv_at hl 1 rfl) ?_
    obtain ⟨r3, qr3, h⟩ := ob h
    refine k_X12_collide F qr3 q_1974 ⟨Nat.le_of_ble_eq_true rfl, Nat.le_of_ble_eq_true rfl, Nat.le_of_ble_eq_true rfl, Nat.le_of_ble_eq_true rfl⟩ hW hS hl.1 (Nat.le_of_ble_eq_true rfl) dX12_collides_14 (fun H locs hW hS => ?_)
    refine lv_if_eq (tgt := 24) hx hb dX12_collides_17 (by decide) (fun cc => ?_) (fun cc => ?_)
    · replace h := (if_pos cc).symm.trans h
      refine lv_iconst (v := (0 : Int32)) hx hb dX12_collides_24 (by decide) ?_
      cases h
      exact r_bool F hr (Or.inl rfl) hW hS dX12_collides_25
    · replace h := (if_neg cc).symm.trans h
      refine lv_iconst (v := (1 : Int32)) hx hb dX12_collides_20 (by decide) ?_
      refine lv_goto (tgt := 25) hx hb dX12_collides_21 (by decide) ?_
      cases h
      exact r_bool F hr (Or.inr rfl) hW hS dX12_collides_25
set_option maxHeartbeats 4000000 in
set_option maxRecDepth 100000 in
theorem c_X12_collides {l : Launch} {G : Gt} {b : Nat} {n : Nat} {a1 : Int32} {μ : Mm} {out : (Int32 × Mm)} (h : sh_X12_collides n a1 μ = some out) : Met l yX12_collides (wU (Cond.code yX12_collides cX12_collides 2 (some .boolean))) ({ frames := 10, cells := 0, slots := 0, locals := 226 } : Room) (PcW (fg G) b μ [.ref (b + 306), .int a1]) (QW (fg G) b out.2 (some (.int out.1))) 0 0 (fb b) :=
  met_of [.ref (b + 306), .int a1] (by decide) (Nat.le_of_ble_eq_true rfl) (fun F hr hW hl => wk_X12_collides F hr h hW va_S.rf hl)
set_option maxHeartbeats 4000000 in
set_option maxRecDepth 100000 in
theorem k_X12_collides {own : String} {nL : Nat} (F : FX (fg G) b own cc nL p s m args meth c) {n : Nat} {a1 : Int32} {μ : Mm} {out : (Int32 × Mm)} (h : sh_X12_collides n a1 μ = some out) {index : Nat} (hl : Cond.methodLink own index yX12_collides ∈ TBG) (hR : 10 + 1 ≤ R.frames ∧ 8 + (2 + 11) + 226 ≤ R.locals ∧ cells ≤ R.cells ∧ slots ≤ R.slots) (hW : WH (fg G) b μ H) (hS : va_S (fb b) s.heap H locs) (hsz : ls.size = nL) (hrest : (rest.map fun v => v.category).sum ≤ 8) (hdg : decode cc pc = .ok (.invokevirtual index, 3))
    (kk : ∀ (H1 : Heap) (locs1 : List Loc), WH (fg G) b out.2 H1 → va_S (fb b) s.heap H1 locs1 → W p l e R s m args below meth c H1 locs1 cells slots Q (F0 m (pc + 3) ls (.int out.1 :: rest))) : W p l e R s m args below meth c H locs cells slots Q (F0 m pc ls (.int a1 :: .ref (b + 306) :: rest)) :=
  f_callV (As := [.int a1]) (ci := 12) (c_X12_collides h) ⟨rfl, rfl⟩ rfl (ky_lm kyf_306 (by decide)) (wF_12 kyf_306) q_1971 q_1972 q_14 q_1973 rfl ⟨by decide +kernel, by decide +kernel, (show (parseMethodDescriptor yX12_collides.desc).map (fun d => d.parameters.length) = some 1 by decide +kernel)⟩ F hl hR hW hS hsz hrest rfl hdg kk
set_option maxHeartbeats 4000000 in
set_option maxRecDepth 100000 in
theorem wk_X12_collisions_13 {n : Nat} {out : (Int32 × Mm)} (F : FX (fg G) b RX12 cX12_collisions 3 p s m args meth c) (hr : meth.sig.returnType = some .int) : ∀ (f : Nat) (x1 : Int32) (x2 : Int32) (μ : Mm) (H : Heap) (locs : List Loc) (ls : Array Slot), sh_X12_collisions_13 n f x1 x2 μ = some out → WH (fg G) b μ H → va_S (fb b) s.heap H locs → lv_has ls 3 [(0, .ref (b + 306)), (1, .int x1), (2, .int x2)] → W p l e ({ frames := 9, cells := 0, slots := 0, locals := 205 } : Room) s m args below meth c H locs 0 0 (MQ below (QW (fg G) b out.2 (some (.int out.1))) args s 0 0 (fb b)) (F0 m 13 ls []) := by
  have hx := F.1
  have hb := F.2.1
  intro f
  induction f with
  | zero =>
    intro _ _ _ _ _ _ h
    rw [sh_X12_collisions_13] at h
    cases h
  | succ f ih =>
    intro x1 x2 μ H locs ls h hW hS hl
    rw [sh_X12_collisions_13] at h
    have hk13 := ih
    refine lv_iload_n hx hb dX12_collisions_13 rfl (lv_at hl 2 rfl) ?_
    refine lv_aload_n hx hb dX12_collisions_14 rfl (lv_at hl 0 rfl) ?_
    refine fl_get12 (v := .int (μ.1 306 36)) kyf_306 F hW 36 (by decide) q_1507 rfl rfl dX12_collisions_15 ?_
    refine lv_icmp_ge (tgt := 43) hx hb dX12_collisions_18 (by decide) (fun cc => ?_) (fun cc => ?_)
    · replace h := (if_pos cc).symm.trans h
      refine lv_iload_n hx hb dX12_collisions_43 rfl (lv_at hl 1 rfl) ?_
      cases h
      exact r_int F hr hW hS dX12_collisions_44
    · replace h := (if_neg cc).symm.trans h
      refine lv_iload_n hx hb dX12_collisions_21 rfl (lv_at hl 1 rfl) ?_
      refine lv_aload_n hx hb dX12_collisions_22 rfl (lv_at hl 0 rfl) ?_
      refine lv_iload_n hx hb dX12_collisions_23 rfl (lv_at hl 2 rfl) ?_
      obtain ⟨r3, qr3, h⟩ := ob h
      refine k_X12_collide F qr3 q_1974 ⟨Nat.le_of_ble_eq_true rfl, Nat.le_of_ble_eq_true rfl, Nat.le_of_ble_eq_true rfl, Nat.le_of_ble_eq_true rfl⟩ hW hS hl.1 (Nat.le_of_ble_eq_true rfl) dX12_collisions_24 (fun H locs hW hS => ?_)
      refine lv_if_eq (tgt := 34) hx hb dX12_collisions_27 (by decide) (fun cc => ?_) (fun cc => ?_)
      · replace h := (if_pos cc).symm.trans h
        refine lv_iconst (v := (0 : Int32)) hx hb dX12_collisions_34 (by decide) ?_
        refine lv_iadd hx hb dX12_collisions_35 ?_
        obtain ⟨v4, ev4⟩ : ∃ y, y = (x1 + (0 : Int32)) := ⟨_, rfl⟩
        have h := nm_at ev4 h
        rw [← ev4]
        refine lv_istore_n (lv' := [(1, .int v4), (0, .ref (b + 306)), (2, .int x2)]) hx hb dX12_collisions_36 rfl hl (by decide) rfl (fun ls hl => ?_)
        refine lv_iinc (v := (x2 + (1 : Int32))) (lv' := [(2, .int (x2 + (1 : Int32))), (1, .int v4), (0, .ref (b + 306))]) hx hb dX12_collisions_37 hl (k := 2) rfl rfl (by decide) rfl (fun ls hl => ?_)
        refine lv_goto (tgt := 13) hx hb dX12_collisions_40 (by decide) ?_
        exact hk13 _ _ _ _ _ _ h hW hS (lv_sub hl [2, 1, 0] rfl)
      · replace h := (if_neg cc).symm.trans h
        refine lv_iconst (v := (1 : Int32)) hx hb dX12_collisions_30 (by decide) ?_
        refine lv_goto (tgt := 35) hx hb dX12_collisions_31 (by decide) ?_
        refine lv_iadd hx hb dX12_collisions_35 ?_
        obtain ⟨v5, ev5⟩ : ∃ y, y = (x1 + (1 : Int32)) := ⟨_, rfl⟩
        have h := nm_at ev5 h
        rw [← ev5]
        refine lv_istore_n (lv' := [(1, .int v5), (0, .ref (b + 306)), (2, .int x2)]) hx hb dX12_collisions_36 rfl hl (by decide) rfl (fun ls hl => ?_)
        refine lv_iinc (v := (x2 + (1 : Int32))) (lv' := [(2, .int (x2 + (1 : Int32))), (1, .int v5), (0, .ref (b + 306))]) hx hb dX12_collisions_37 hl (k := 2) rfl rfl (by decide) rfl (fun ls hl => ?_)
        refine lv_goto (tgt := 13) hx hb dX12_collisions_40 (by decide) ?_
        exact hk13 _ _ _ _ _ _ h hW hS (lv_sub hl [2, 1, 0] rfl)
set_option maxHeartbeats 4000000 in
set_option maxRecDepth 100000 in
theorem wk_X12_collisions {n : Nat} {μ : Mm} {out : (Int32 × Mm)} (F : FX (fg G) b RX12 cX12_collisions 3 p s m args meth c) (hr : meth.sig.returnType = some .int) (h : sh_X12_collisions n  μ = some out) (hW : WH (fg G) b μ H) (hS : va_S (fb b) s.heap H locs) (hl : lv_has ls 3 [(0, .ref (b + 306))]) : W p l e ({ frames := 9, cells := 0, slots := 0, locals := 205 } : Room) s m args below meth c H locs 0 0 (MQ below (QW (fg G) b out.2 (some (.int out.1))) args s 0 0 (fb b)) (F0 m 0 ls []) := by
  have hx := F.1
  have hb := F.2.1
  unfold sh_X12_collisions at h
  refine lv_aload_n hx hb dX12_collisions_0 rfl (lv_at hl 0 rfl) ?_
  refine lv_iconst (v := (0 : Int32)) hx hb dX12_collisions_1 (by decide) ?_
  obtain ⟨μ1, hmμ1, h⟩ := ob h
  refine fl_put12_0 kyf_306 F hW hS q_1471 hmμ1 dX12_collisions_2 (fun H locs hW hS => ?_)
  refine lv_aload_n hx hb dX12_collisions_5 rfl (lv_at hl 0 rfl) ?_
  obtain ⟨r2, qr2, h⟩ := ob h
  refine k_X12_lay F qr2 q_1764 ⟨Nat.le_of_ble_eq_true rfl, Nat.le_of_ble_eq_true rfl, Nat.le_of_ble_eq_true rfl, Nat.le_of_ble_eq_true rfl⟩ hW hS hl.1 (Nat.le_of_ble_eq_true rfl) dX12_collisions_6 (fun H locs hW hS => ?_)
  refine lv_iconst (v := (0 : Int32)) hx hb dX12_collisions_9 (by decide) ?_
  refine lv_istore_n (lv' := [(1, .int (0 : Int32)), (0, .ref (b + 306))]) hx hb dX12_collisions_10 rfl hl (by decide) rfl (fun ls hl => ?_)
  refine lv_iconst (v := (0 : Int32)) hx hb dX12_collisions_11 (by decide) ?_
  refine lv_istore_n (lv' := [(2, .int (0 : Int32)), (1, .int (0 : Int32)), (0, .ref (b + 306))]) hx hb dX12_collisions_12 rfl hl (by decide) rfl (fun ls hl => ?_)
  exact wk_X12_collisions_13 F hr n _ _ _ _ _ _ h hW hS (lv_sub hl [2, 1, 0] rfl)
set_option maxHeartbeats 4000000 in
set_option maxRecDepth 100000 in
theorem c_X12_collisions {l : Launch} {G : Gt} {b : Nat} {n : Nat} {μ : Mm} {out : (Int32 × Mm)} (h : sh_X12_collisions n  μ = some out) : Met l yX12_collisions (wU (Cond.code yX12_collisions cX12_collisions 3 (some .int))) ({ frames := 9, cells := 0, slots := 0, locals := 205 } : Room) (PcW (fg G) b μ [.ref (b + 306)]) (QW (fg G) b out.2 (some (.int out.1))) 0 0 (fb b) :=
  met_of [.ref (b + 306)] (by decide) (Nat.le_of_ble_eq_true rfl) (fun F hr hW hl => wk_X12_collisions F hr h hW va_S.rf hl)
set_option maxHeartbeats 4000000 in
set_option maxRecDepth 100000 in
theorem k_X12_collisions {own : String} {nL : Nat} (F : FX (fg G) b own cc nL p s m args meth c) {n : Nat} {μ : Mm} {out : (Int32 × Mm)} (h : sh_X12_collisions n  μ = some out) {index : Nat} (hl : Cond.methodLink own index yX12_collisions ∈ TBG) (hR : 9 + 1 ≤ R.frames ∧ 8 + (3 + 11) + 205 ≤ R.locals ∧ cells ≤ R.cells ∧ slots ≤ R.slots) (hW : WH (fg G) b μ H) (hS : va_S (fb b) s.heap H locs) (hsz : ls.size = nL) (hrest : (rest.map fun v => v.category).sum ≤ 8) (hdg : decode cc pc = .ok (.invokevirtual index, 3))
    (kk : ∀ (H1 : Heap) (locs1 : List Loc), WH (fg G) b out.2 H1 → va_S (fb b) s.heap H1 locs1 → W p l e R s m args below meth c H1 locs1 cells slots Q (F0 m (pc + 3) ls (.int out.1 :: rest))) : W p l e R s m args below meth c H locs cells slots Q (F0 m pc ls (.ref (b + 306) :: rest)) :=
  f_callV (As := []) (ci := 12) (c_X12_collisions h) ⟨rfl, rfl⟩ rfl (ky_lm kyf_306 (by decide)) (wF_12 kyf_306) q_1983 q_1984 q_14 q_1985 rfl ⟨by decide +kernel, by decide +kernel, (show (parseMethodDescriptor yX12_collisions.desc).map (fun d => d.parameters.length) = some 0 by decide +kernel)⟩ F hl hR hW hS hsz hrest rfl hdg kk
set_option maxHeartbeats 4000000 in
set_option maxRecDepth 100000 in
theorem wk_X12_compare_3 {n : Nat} {a1 : Int32} {a2 : Int32} {a3 : Int32} {a4 : Int32} {μ : Mm} {out : Int32} (F : FX (fg G) b RX12 cX12_compare 6 p s m args meth c) (hr : meth.sig.returnType = some .int) : ∀ (f : Nat) (x5 : Int32) (H : Heap) (locs : List Loc) (ls : Array Slot), sh_X12_compare_3 n a1 a2 a3 a4 μ f x5 = some out → WH (fg G) b μ H → va_S (fb b) s.heap H locs → lv_has ls 6 [(0, .ref (b + 306)), (1, .int a1), (2, .int a2), (3, .int a3), (4, .int a4), (5, .int x5)] → W p l e ({ frames := 2, cells := 0, slots := 0, locals := 45 } : Room) s m args below meth c H locs 0 0 (MQ below (QW (fg G) b μ (some (.int out))) args s 0 0 (fb b)) (F0 m 3 ls []) := by
  have hx := F.1
  have hb := F.2.1
  intro f
  induction f with
  | zero =>
    intro _ _ _ _ h
    rw [sh_X12_compare_3] at h
    cases h
  | succ f ih =>
    intro x5  H locs ls h hW hS hl
    rw [sh_X12_compare_3] at h
    have hk3 := ih
    refine lv_iload hx hb dX12_compare_3 (lv_at hl 5 rfl) ?_
    refine lv_bipush (v := (12 : Int32)) hx hb dX12_compare_5 (by decide) ?_
    refine lv_icmp_ge (tgt := 55) hx hb dX12_compare_7 (by decide) (fun cc => ?_) (fun cc => ?_)
    · replace h := (if_pos cc).symm.trans h
      refine lv_iconst (v := (0 : Int32)) hx hb dX12_compare_55 (by decide) ?_
      cases h
      exact r_int F hr hW hS dX12_compare_56
    · replace h := (if_neg cc).symm.trans h
      refine lv_aload_n hx hb dX12_compare_10 rfl (lv_at hl 0 rfl) ?_
      refine lv_iload_n hx hb dX12_compare_11 rfl (lv_at hl 1 rfl) ?_
      refine lv_iload_n hx hb dX12_compare_12 rfl (lv_at hl 2 rfl) ?_
      refine lv_iload hx hb dX12_compare_13 (lv_at hl 5 rfl) ?_
      obtain ⟨r1, qr1, h⟩ := ob h
      refine k_X12_letterOf F qr1 q_1844 ⟨Nat.le_of_ble_eq_true rfl, Nat.le_of_ble_eq_true rfl, Nat.le_of_ble_eq_true rfl, Nat.le_of_ble_eq_true rfl⟩ hW hS hl.1 (Nat.le_of_ble_eq_true rfl) dX12_compare_15 (fun H locs hW hS => ?_)
      refine lv_aload_n hx hb dX12_compare_18 rfl (lv_at hl 0 rfl) ?_
      refine lv_iload_n hx hb dX12_compare_19 rfl (lv_at hl 3 rfl) ?_
      refine lv_iload hx hb dX12_compare_20 (lv_at hl 4 rfl) ?_
      refine lv_iload hx hb dX12_compare_22 (lv_at hl 5 rfl) ?_
      obtain ⟨r2, qr2, h⟩ := ob h
      refine k_X12_letterOf F qr2 q_1844 ⟨Nat.le_of_ble_eq_true rfl, Nat.le_of_ble_eq_true rfl, Nat.le_of_ble_eq_true rfl, Nat.le_of_ble_eq_true rfl⟩ hW hS hl.1 (Nat.le_of_ble_eq_true rfl) dX12_compare_24 (fun H locs hW hS => ?_)
      refine lv_icmp_eq (tgt := 49) hx hb dX12_compare_27 (by decide) (fun cc => ?_) (fun cc => ?_)
      · replace h := (if_pos cc).symm.trans h
        refine lv_iinc (v := (x5 + (1 : Int32))) (lv' := [(5, .int (x5 + (1 : Int32))), (0, .ref (b + 306)), (1, .int a1), (2, .int a2), (3, .int a3), (4, .int a4)]) hx hb dX12_compare_49 hl (k := 5) rfl rfl (by decide) rfl (fun ls hl => ?_)
        refine lv_goto (tgt := 3) hx hb dX12_compare_52 (by decide) ?_
        exact hk3 _ _ _ _ h hW hS (lv_sub hl [1, 2, 3, 4, 5, 0] rfl)
      · replace h := (if_neg cc).symm.trans h
        refine lv_aload_n hx hb dX12_compare_30 rfl (lv_at hl 0 rfl) ?_
        refine lv_iload_n hx hb dX12_compare_31 rfl (lv_at hl 1 rfl) ?_
        refine lv_iload_n hx hb dX12_compare_32 rfl (lv_at hl 2 rfl) ?_
        refine lv_iload hx hb dX12_compare_33 (lv_at hl 5 rfl) ?_
        obtain ⟨r3, qr3, h⟩ := ob h
        refine k_X12_letterOf F qr3 q_1844 ⟨Nat.le_of_ble_eq_true rfl, Nat.le_of_ble_eq_true rfl, Nat.le_of_ble_eq_true rfl, Nat.le_of_ble_eq_true rfl⟩ hW hS hl.1 (Nat.le_of_ble_eq_true rfl) dX12_compare_35 (fun H locs hW hS => ?_)
        refine lv_aload_n hx hb dX12_compare_38 rfl (lv_at hl 0 rfl) ?_
        refine lv_iload_n hx hb dX12_compare_39 rfl (lv_at hl 3 rfl) ?_
        refine lv_iload hx hb dX12_compare_40 (lv_at hl 4 rfl) ?_
        refine lv_iload hx hb dX12_compare_42 (lv_at hl 5 rfl) ?_
        obtain ⟨r4, qr4, h⟩ := ob h
        refine k_X12_letterOf F qr4 q_1844 ⟨Nat.le_of_ble_eq_true rfl, Nat.le_of_ble_eq_true rfl, Nat.le_of_ble_eq_true rfl, Nat.le_of_ble_eq_true rfl⟩ hW hS hl.1 (Nat.le_of_ble_eq_true rfl) dX12_compare_44 (fun H locs hW hS => ?_)
        refine lv_isub hx hb dX12_compare_47 ?_
        cases h
        exact r_int F hr hW hS dX12_compare_48
set_option maxHeartbeats 4000000 in
set_option maxRecDepth 100000 in
theorem wk_X12_compare {n : Nat} {a1 : Int32} {a2 : Int32} {a3 : Int32} {a4 : Int32} {μ : Mm} {out : Int32} (F : FX (fg G) b RX12 cX12_compare 6 p s m args meth c) (hr : meth.sig.returnType = some .int) (h : sh_X12_compare n a1 a2 a3 a4 μ = some out) (hW : WH (fg G) b μ H) (hS : va_S (fb b) s.heap H locs) (hl : lv_has ls 6 [(0, .ref (b + 306)), (1, .int a1), (2, .int a2), (3, .int a3), (4, .int a4)]) : W p l e ({ frames := 2, cells := 0, slots := 0, locals := 45 } : Room) s m args below meth c H locs 0 0 (MQ below (QW (fg G) b μ (some (.int out))) args s 0 0 (fb b)) (F0 m 0 ls []) := by
  have hx := F.1
  have hb := F.2.1
  unfold sh_X12_compare at h
  refine lv_iconst (v := (0 : Int32)) hx hb dX12_compare_0 (by decide) ?_
  refine lv_istore (lv' := [(5, .int (0 : Int32)), (0, .ref (b + 306)), (1, .int a1), (2, .int a2), (3, .int a3), (4, .int a4)]) hx hb dX12_compare_1 hl (by decide) rfl (fun ls hl => ?_)
  exact wk_X12_compare_3 F hr n _ _ _ _ h hW hS (lv_sub hl [1, 2, 3, 4, 5, 0] rfl)
set_option maxHeartbeats 4000000 in
set_option maxRecDepth 100000 in
theorem c_X12_compare {l : Launch} {G : Gt} {b : Nat} {n : Nat} {a1 : Int32} {a2 : Int32} {a3 : Int32} {a4 : Int32} {μ : Mm} {out : Int32} (h : sh_X12_compare n a1 a2 a3 a4 μ = some out) : Met l yX12_compare (wU (Cond.code yX12_compare cX12_compare 6 (some .int))) ({ frames := 2, cells := 0, slots := 0, locals := 45 } : Room) (PcW (fg G) b μ [.ref (b + 306), .int a1, .int a2, .int a3, .int a4]) (QW (fg G) b μ (some (.int out))) 0 0 (fb b) :=
  met_of [.ref (b + 306), .int a1, .int a2, .int a3, .int a4] (by decide) (Nat.le_of_ble_eq_true rfl) (fun F hr hW hl => wk_X12_compare F hr h hW va_S.rf hl)
set_option maxHeartbeats 4000000 in
set_option maxRecDepth 100000 in
theorem k_X12_compare {own : String} {nL : Nat} (F : FX (fg G) b own cc nL p s m args meth c) {n : Nat} {a1 : Int32} {a2 : Int32} {a3 : Int32} {a4 : Int32} {μ : Mm} {out : Int32} (h : sh_X12_compare n a1 a2 a3 a4 μ = some out) {index : Nat} (hl : Cond.methodLink own index yX12_compare ∈ TBG) (hR : 2 + 1 ≤ R.frames ∧ 8 + (6 + 11) + 45 ≤ R.locals ∧ cells ≤ R.cells ∧ slots ≤ R.slots) (hW : WH (fg G) b μ H) (hS : va_S (fb b) s.heap H locs) (hsz : ls.size = nL) (hrest : (rest.map fun v => v.category).sum ≤ 8) (hdg : decode cc pc = .ok (.invokevirtual index, 3))
    (kk : ∀ (H1 : Heap) (locs1 : List Loc), WH (fg G) b μ H1 → va_S (fb b) s.heap H1 locs1 → W p l e R s m args below meth c H1 locs1 cells slots Q (F0 m (pc + 3) ls (.int out :: rest))) : W p l e R s m args below meth c H locs cells slots Q (F0 m pc ls (.int a4 :: .int a3 :: .int a2 :: .int a1 :: .ref (b + 306) :: rest)) :=
  f_callV (As := [.int a1, .int a2, .int a3, .int a4]) (ci := 12) (c_X12_compare h) ⟨rfl, rfl⟩ rfl (ky_lm kyf_306 (by decide)) (wF_12 kyf_306) q_2004 qp_101 q_14 q_2005 rfl ⟨by decide +kernel, by decide +kernel, (show (parseMethodDescriptor yX12_compare.desc).map (fun d => d.parameters.length) = some 4 by decide +kernel)⟩ F hl hR hW hS hsz hrest rfl hdg kk
set_option maxHeartbeats 4000000 in
set_option maxRecDepth 100000 in
theorem wk_X12_compareTo {n : Nat} {a1 : Int32} {a2 : Int32} {a3 : Int32} {μ : Mm} {out : Int32} (F : FX (fg G) b RX12 cX12_compareTo 4 p s m args meth c) (hr : meth.sig.returnType = some .int) (h : sh_X12_compareTo n a1 a2 a3 μ = some out) (hW : WH (fg G) b μ H) (hS : va_S (fb b) s.heap H locs) (hl : lv_has ls 4 [(0, .ref (b + 306)), (1, .int a1), (2, .int a2), (3, .int a3)]) : W p l e ({ frames := 3, cells := 0, slots := 0, locals := 70 } : Room) s m args below meth c H locs 0 0 (MQ below (QW (fg G) b μ (some (.int out))) args s 0 0 (fb b)) (F0 m 0 ls []) := by
  have hx := F.1
  have hb := F.2.1
  unfold sh_X12_compareTo at h
  refine lv_aload_n hx hb dX12_compareTo_0 rfl (lv_at hl 0 rfl) ?_
  refine lv_iload_n hx hb dX12_compareTo_1 rfl (lv_at hl 1 rfl) ?_
  refine lv_iload_n hx hb dX12_compareTo_2 rfl (lv_at hl 2 rfl) ?_
  refine lv_aload_n hx hb dX12_compareTo_3 rfl (lv_at hl 0 rfl) ?_
  refine fl_get12 (v := .ref (b + 327)) kyf_306 F hW 43 (by decide) q_1514 rfl rfl dX12_compareTo_4 ?_
  refine lv_iload_n hx hb dX12_compareTo_7 rfl (lv_at hl 3 rfl) ?_
  obtain ⟨v1, qv1, h⟩ := ob h
  refine fm_iald kyf_327 F hW qv1 dX12_compareTo_8 ?_
  refine lv_bipush (v := (8 : Int32)) hx hb dX12_compareTo_9 (by decide) ?_
  obtain ⟨v2, qv2, h⟩ := ob h
  obtain ⟨zv2, qv2⟩ := dv_some qv2
  refine lv_idiv hx hb dX12_compareTo_11 zv2 ?_
  rw [qv2]
  refine lv_aload_n hx hb dX12_compareTo_12 rfl (lv_at hl 0 rfl) ?_
  refine fl_get12 (v := .ref (b + 327)) kyf_306 F hW 43 (by decide) q_1514 rfl rfl dX12_compareTo_13 ?_
  refine lv_iload_n hx hb dX12_compareTo_16 rfl (lv_at hl 3 rfl) ?_
  obtain ⟨v3, qv3, h⟩ := ob h
  refine fm_iald kyf_327 F hW qv3 dX12_compareTo_17 ?_
  refine lv_bipush (v := (8 : Int32)) hx hb dX12_compareTo_18 (by decide) ?_
  obtain ⟨v4, qv4, h⟩ := ob h
  obtain ⟨zv4, qv4⟩ := rm_some qv4
  refine lv_irem hx hb dX12_compareTo_20 zv4 ?_
  rw [qv4]
  obtain ⟨r5, qr5, h⟩ := ob h
  refine k_X12_compare F qr5 q_2002 ⟨Nat.le_of_ble_eq_true rfl, Nat.le_of_ble_eq_true rfl, Nat.le_of_ble_eq_true rfl, Nat.le_of_ble_eq_true rfl⟩ hW hS hl.1 (Nat.le_of_ble_eq_true rfl) dX12_compareTo_21 (fun H locs hW hS => ?_)
  cases h
  exact r_int F hr hW hS dX12_compareTo_24
set_option maxHeartbeats 4000000 in
set_option maxRecDepth 100000 in
theorem c_X12_compareTo {l : Launch} {G : Gt} {b : Nat} {n : Nat} {a1 : Int32} {a2 : Int32} {a3 : Int32} {μ : Mm} {out : Int32} (h : sh_X12_compareTo n a1 a2 a3 μ = some out) : Met l yX12_compareTo (wU (Cond.code yX12_compareTo cX12_compareTo 4 (some .int))) ({ frames := 3, cells := 0, slots := 0, locals := 70 } : Room) (PcW (fg G) b μ [.ref (b + 306), .int a1, .int a2, .int a3]) (QW (fg G) b μ (some (.int out))) 0 0 (fb b) :=
  met_of [.ref (b + 306), .int a1, .int a2, .int a3] (by decide) (Nat.le_of_ble_eq_true rfl) (fun F hr hW hl => wk_X12_compareTo F hr h hW va_S.rf hl)
set_option maxHeartbeats 4000000 in
set_option maxRecDepth 100000 in
theorem k_X12_compareTo {own : String} {nL : Nat} (F : FX (fg G) b own cc nL p s m args meth c) {n : Nat} {a1 : Int32} {a2 : Int32} {a3 : Int32} {μ : Mm} {out : Int32} (h : sh_X12_compareTo n a1 a2 a3 μ = some out) {index : Nat} (hl : Cond.methodLink own index yX12_compareTo ∈ TBG) (hR : 3 + 1 ≤ R.frames ∧ 8 + (4 + 11) + 70 ≤ R.locals ∧ cells ≤ R.cells ∧ slots ≤ R.slots) (hW : WH (fg G) b μ H) (hS : va_S (fb b) s.heap H locs) (hsz : ls.size = nL) (hrest : (rest.map fun v => v.category).sum ≤ 8) (hdg : decode cc pc = .ok (.invokevirtual index, 3))
    (kk : ∀ (H1 : Heap) (locs1 : List Loc), WH (fg G) b μ H1 → va_S (fb b) s.heap H1 locs1 → W p l e R s m args below meth c H1 locs1 cells slots Q (F0 m (pc + 3) ls (.int out :: rest))) : W p l e R s m args below meth c H locs cells slots Q (F0 m pc ls (.int a3 :: .int a2 :: .int a1 :: .ref (b + 306) :: rest)) :=
  f_callV (As := [.int a1, .int a2, .int a3]) (ci := 12) (c_X12_compareTo h) ⟨rfl, rfl⟩ rfl (ky_lm kyf_306 (by decide)) (wF_12 kyf_306) q_2000 qp_100 q_14 q_2001 rfl ⟨by decide +kernel, by decide +kernel, (show (parseMethodDescriptor yX12_compareTo.desc).map (fun d => d.parameters.length) = some 3 by decide +kernel)⟩ F hl hR hW hS hsz hrest rfl hdg kk
set_option maxHeartbeats 4000000 in
set_option maxRecDepth 100000 in
theorem wk_X12_layWord_51 {n : Nat} {a1 : Int32} {a2 : Int32} {out : Mm} (F : FX (fg G) b RX12 cX12_layWord 5 p s m args meth c) (hr : meth.sig.returnType = none) : ∀ (f : Nat) (x3 : Int32) (x4 : Int32) (μ : Mm) (H : Heap) (locs : List Loc) (ls : Array Slot), sh_X12_layWord_51 n a1 a2 f x3 x4 μ = some out → WH (fg G) b μ H → va_S (fb b) s.heap H locs → lv_has ls 5 [(0, .ref (b + 306)), (1, .int a1), (2, .int a2), (3, .int x3), (4, .int x4)] → W p l e ({ frames := 4, cells := 0, slots := 0, locals := 93 } : Room) s m args below meth c H locs 0 0 (MQ below (QW (fg G) b out none) args s 0 0 (fb b)) (F0 m 51 ls []) := by
  have hx := F.1
  have hb := F.2.1
  intro f
  induction f with
  | zero =>
    intro _ _ _ _ _ _ h
    rw [sh_X12_layWord_51] at h
    cases h
  | succ f ih =>
    intro x3 x4 μ H locs ls h hW hS hl
    rw [sh_X12_layWord_51] at h
    have hk51 := ih
    refine lv_iload hx hb dX12_layWord_51 (lv_at hl 4 rfl) ?_
    refine lv_iload_n hx hb dX12_layWord_53 rfl (lv_at hl 3 rfl) ?_
    refine lv_icmp_le (tgt := 79) hx hb dX12_layWord_54 (by decide) (fun cc => ?_) (fun cc => ?_)
    · replace h := (if_pos cc).symm.trans h
      refine lv_aload_n hx hb dX12_layWord_79 rfl (lv_at hl 0 rfl) ?_
      refine fl_get12 (v := .ref (b + 327)) kyf_306 F hW 43 (by decide) q_1514 rfl rfl dX12_layWord_80 ?_
      refine lv_iload_n hx hb dX12_layWord_83 rfl (lv_at hl 3 rfl) ?_
      refine lv_bipush (v := (8 : Int32)) hx hb dX12_layWord_84 (by decide) ?_
      refine lv_iload_n hx hb dX12_layWord_86 rfl (lv_at hl 1 rfl) ?_
      refine lv_imul hx hb dX12_layWord_87 ?_
      refine lv_iload_n hx hb dX12_layWord_88 rfl (lv_at hl 2 rfl) ?_
      refine lv_iadd hx hb dX12_layWord_89 ?_
      obtain ⟨μ2, qμ2, h⟩ := ob h
      refine fm_iast kyf_327 F hW hS qμ2 dX12_layWord_90 (fun H locs hW hS => ?_)
      refine lv_aload_n hx hb dX12_layWord_91 rfl (lv_at hl 0 rfl) ?_
      refine lv_dup hx hb dX12_layWord_92 rfl ?_
      refine fl_get12 (v := .int (μ2.1 306 44)) kyf_306 F hW 44 (by decide) q_1515 rfl rfl dX12_layWord_93 ?_
      refine lv_iconst (v := (1 : Int32)) hx hb dX12_layWord_96 (by decide) ?_
      refine lv_iadd hx hb dX12_layWord_97 ?_
      obtain ⟨μ3, hmμ3, h⟩ := ob h
      refine fl_put12_44 kyf_306 F hW hS q_1515 hmμ3 dX12_layWord_98 (fun H locs hW hS => ?_)
      cases h
      exact r_void F hr hW hS dX12_layWord_101
    · replace h := (if_neg cc).symm.trans h
      refine lv_aload_n hx hb dX12_layWord_57 rfl (lv_at hl 0 rfl) ?_
      refine fl_get12 (v := .ref (b + 327)) kyf_306 F hW 43 (by decide) q_1514 rfl rfl dX12_layWord_58 ?_
      refine lv_iload hx hb dX12_layWord_61 (lv_at hl 4 rfl) ?_
      refine lv_aload_n hx hb dX12_layWord_63 rfl (lv_at hl 0 rfl) ?_
      refine fl_get12 (v := .ref (b + 327)) kyf_306 F hW 43 (by decide) q_1514 rfl rfl dX12_layWord_64 ?_
      refine lv_iload hx hb dX12_layWord_67 (lv_at hl 4 rfl) ?_
      refine lv_iconst (v := (1 : Int32)) hx hb dX12_layWord_69 (by decide) ?_
      refine lv_isub hx hb dX12_layWord_70 ?_
      obtain ⟨v4, qv4, h⟩ := ob h
      refine fm_iald kyf_327 F hW qv4 dX12_layWord_71 ?_
      obtain ⟨μ5, qμ5, h⟩ := ob h
      refine fm_iast kyf_327 F hW hS qμ5 dX12_layWord_72 (fun H locs hW hS => ?_)
      refine lv_iinc (v := (x4 + (-1 : Int32))) (lv' := [(4, .int (x4 + (-1 : Int32))), (0, .ref (b + 306)), (1, .int a1), (2, .int a2), (3, .int x3)]) hx hb dX12_layWord_73 hl (k := 4) rfl rfl (by decide) rfl (fun ls hl => ?_)
      refine lv_goto (tgt := 51) hx hb dX12_layWord_76 (by decide) ?_
      exact hk51 _ _ _ _ _ _ h hW hS (lv_sub hl [1, 2, 3, 4, 0] rfl)
set_option maxHeartbeats 4000000 in
set_option maxRecDepth 100000 in
theorem wk_X12_layWord_26 {n : Nat} {a1 : Int32} {a2 : Int32} {x3 : Int32} {μ : Mm} {out : Mm} (F : FX (fg G) b RX12 cX12_layWord 5 p s m args meth c) (hr : meth.sig.returnType = none) (h : sh_X12_layWord_26 n a1 a2 x3 μ = some out) (hW : WH (fg G) b μ H) (hS : va_S (fb b) s.heap H locs) (hl : lv_has ls 5 [(0, .ref (b + 306)), (1, .int a1), (2, .int a2), (3, .int x3)]) : W p l e ({ frames := 4, cells := 0, slots := 0, locals := 93 } : Room) s m args below meth c H locs 0 0 (MQ below (QW (fg G) b out none) args s 0 0 (fb b)) (F0 m 26 ls []) := by
  have hx := F.1
  have hb := F.2.1
  unfold sh_X12_layWord_26 at h
  refine lv_iload_n hx hb dX12_layWord_26 rfl (lv_at hl 3 rfl) ?_
  refine lv_aload_n hx hb dX12_layWord_27 rfl (lv_at hl 0 rfl) ?_
  refine fl_get12 (v := .int (μ.1 306 44)) kyf_306 F hW 44 (by decide) q_1515 rfl rfl dX12_layWord_28 ?_
  refine lv_icmp_ge (tgt := 45) hx hb dX12_layWord_31 (by decide) (fun cc => ?_) (fun cc => ?_)
  · replace h := (if_pos cc).symm.trans h
    refine lv_aload_n hx hb dX12_layWord_45 rfl (lv_at hl 0 rfl) ?_
    refine fl_get12 (v := .int (μ.1 306 44)) kyf_306 F hW 44 (by decide) q_1515 rfl rfl dX12_layWord_46 ?_
    obtain ⟨v1, ev1⟩ : ∃ y, y = (μ.1 306 44) := ⟨_, rfl⟩
    have h := nm_at ev1 h
    rw [← ev1]
    refine lv_istore (lv' := [(4, .int v1), (0, .ref (b + 306)), (1, .int a1), (2, .int a2), (3, .int x3)]) hx hb dX12_layWord_49 hl (by decide) rfl (fun ls hl => ?_)
    exact wk_X12_layWord_51 F hr n _ _ _ _ _ _ h hW hS (lv_sub hl [1, 2, 3, 4, 0] rfl)
  · replace h := (if_neg cc).symm.trans h
    refine lv_aload_n hx hb dX12_layWord_34 rfl (lv_at hl 0 rfl) ?_
    refine lv_iload_n hx hb dX12_layWord_35 rfl (lv_at hl 1 rfl) ?_
    refine lv_iload_n hx hb dX12_layWord_36 rfl (lv_at hl 2 rfl) ?_
    refine lv_iload_n hx hb dX12_layWord_37 rfl (lv_at hl 3 rfl) ?_
    obtain ⟨r6, qr6, h⟩ := ob h
    refine k_X12_compareTo F qr6 q_1998 ⟨Nat.le_of_ble_eq_true rfl, Nat.le_of_ble_eq_true rfl, Nat.le_of_ble_eq_true rfl, Nat.le_of_ble_eq_true rfl⟩ hW hS hl.1 (Nat.le_of_ble_eq_true rfl) dX12_layWord_38 (fun H locs hW hS => ?_)
    refine lv_if_ne (tgt := 45) hx hb dX12_layWord_41 (by decide) (fun cc => ?_) (fun cc => ?_)
    · replace h := (if_neg cc).symm.trans h
      refine lv_aload_n hx hb dX12_layWord_45 rfl (lv_at hl 0 rfl) ?_
      refine fl_get12 (v := .int (μ.1 306 44)) kyf_306 F hW 44 (by decide) q_1515 rfl rfl dX12_layWord_46 ?_
      obtain ⟨v7, ev7⟩ : ∃ y, y = (μ.1 306 44) := ⟨_, rfl⟩
      have h := nm_at ev7 h
      rw [← ev7]
      refine lv_istore (lv' := [(4, .int v7), (0, .ref (b + 306)), (1, .int a1), (2, .int a2), (3, .int x3)]) hx hb dX12_layWord_49 hl (by decide) rfl (fun ls hl => ?_)
      exact wk_X12_layWord_51 F hr n _ _ _ _ _ _ h hW hS (lv_sub hl [1, 2, 3, 4, 0] rfl)
    · replace h := (if_pos cc).symm.trans h
      cases h
      exact r_void F hr hW hS dX12_layWord_44
set_option maxHeartbeats 4000000 in
set_option maxRecDepth 100000 in
theorem wk_X12_layWord_2 {n : Nat} {a1 : Int32} {a2 : Int32} {out : Mm} (F : FX (fg G) b RX12 cX12_layWord 5 p s m args meth c) (hr : meth.sig.returnType = none) : ∀ (f : Nat) (x3 : Int32) (μ : Mm) (H : Heap) (locs : List Loc) (ls : Array Slot), sh_X12_layWord_2 n a1 a2 f x3 μ = some out → WH (fg G) b μ H → va_S (fb b) s.heap H locs → lv_has ls 5 [(0, .ref (b + 306)), (1, .int a1), (2, .int a2), (3, .int x3)] → W p l e ({ frames := 4, cells := 0, slots := 0, locals := 93 } : Room) s m args below meth c H locs 0 0 (MQ below (QW (fg G) b out none) args s 0 0 (fb b)) (F0 m 2 ls []) := by
  have hx := F.1
  have hb := F.2.1
  intro f
  induction f with
  | zero =>
    intro _ _ _ _ _ h
    rw [sh_X12_layWord_2] at h
    cases h
  | succ f ih =>
    intro x3 μ H locs ls h hW hS hl
    rw [sh_X12_layWord_2] at h
    have hk2 := ih
    refine lv_iload_n hx hb dX12_layWord_2 rfl (lv_at hl 3 rfl) ?_
    refine lv_aload_n hx hb dX12_layWord_3 rfl (lv_at hl 0 rfl) ?_
    refine fl_get12 (v := .int (μ.1 306 44)) kyf_306 F hW 44 (by decide) q_1515 rfl rfl dX12_layWord_4 ?_
    refine lv_icmp_ge (tgt := 26) hx hb dX12_layWord_7 (by decide) (fun cc => ?_) (fun cc => ?_)
    · replace h := (if_pos cc).symm.trans h
      exact wk_X12_layWord_26 F hr h hW hS (lv_sub hl [0, 1, 2, 3] rfl)
    · replace h := (if_neg cc).symm.trans h
      refine lv_aload_n hx hb dX12_layWord_10 rfl (lv_at hl 0 rfl) ?_
      refine lv_iload_n hx hb dX12_layWord_11 rfl (lv_at hl 1 rfl) ?_
      refine lv_iload_n hx hb dX12_layWord_12 rfl (lv_at hl 2 rfl) ?_
      refine lv_iload_n hx hb dX12_layWord_13 rfl (lv_at hl 3 rfl) ?_
      obtain ⟨r8, qr8, h⟩ := ob h
      refine k_X12_compareTo F qr8 q_1998 ⟨Nat.le_of_ble_eq_true rfl, Nat.le_of_ble_eq_true rfl, Nat.le_of_ble_eq_true rfl, Nat.le_of_ble_eq_true rfl⟩ hW hS hl.1 (Nat.le_of_ble_eq_true rfl) dX12_layWord_14 (fun H locs hW hS => ?_)
      refine lv_if_le (tgt := 26) hx hb dX12_layWord_17 (by decide) (fun cc => ?_) (fun cc => ?_)
      · replace h := (if_pos cc).symm.trans h
        exact wk_X12_layWord_26 F hr h hW hS (lv_sub hl [0, 1, 2, 3] rfl)
      · replace h := (if_neg cc).symm.trans h
        refine lv_iinc (v := (x3 + (1 : Int32))) (lv' := [(3, .int (x3 + (1 : Int32))), (0, .ref (b + 306)), (1, .int a1), (2, .int a2)]) hx hb dX12_layWord_20 hl (k := 3) rfl rfl (by decide) rfl (fun ls hl => ?_)
        refine lv_goto (tgt := 2) hx hb dX12_layWord_23 (by decide) ?_
        exact hk2 _ _ _ _ _ h hW hS (lv_sub hl [1, 2, 3, 0] rfl)
set_option maxHeartbeats 4000000 in
set_option maxRecDepth 100000 in
theorem wk_X12_layWord {n : Nat} {a1 : Int32} {a2 : Int32} {μ : Mm} {out : Mm} (F : FX (fg G) b RX12 cX12_layWord 5 p s m args meth c) (hr : meth.sig.returnType = none) (h : sh_X12_layWord n a1 a2 μ = some out) (hW : WH (fg G) b μ H) (hS : va_S (fb b) s.heap H locs) (hl : lv_has ls 5 [(0, .ref (b + 306)), (1, .int a1), (2, .int a2)]) : W p l e ({ frames := 4, cells := 0, slots := 0, locals := 93 } : Room) s m args below meth c H locs 0 0 (MQ below (QW (fg G) b out none) args s 0 0 (fb b)) (F0 m 0 ls []) := by
  have hx := F.1
  have hb := F.2.1
  unfold sh_X12_layWord at h
  refine lv_iconst (v := (0 : Int32)) hx hb dX12_layWord_0 (by decide) ?_
  refine lv_istore_n (lv' := [(3, .int (0 : Int32)), (0, .ref (b + 306)), (1, .int a1), (2, .int a2)]) hx hb dX12_layWord_1 rfl hl (by decide) rfl (fun ls hl => ?_)
  exact wk_X12_layWord_2 F hr n _ _ _ _ _ h hW hS (lv_sub hl [1, 2, 3, 0] rfl)
set_option maxHeartbeats 4000000 in
set_option maxRecDepth 100000 in
theorem c_X12_layWord {l : Launch} {G : Gt} {b : Nat} {n : Nat} {a1 : Int32} {a2 : Int32} {μ : Mm} {out : Mm} (h : sh_X12_layWord n a1 a2 μ = some out) : Met l yX12_layWord (wU (Cond.code yX12_layWord cX12_layWord 5 none)) ({ frames := 4, cells := 0, slots := 0, locals := 93 } : Room) (PcW (fg G) b μ [.ref (b + 306), .int a1, .int a2]) (QW (fg G) b out none) 0 0 (fb b) :=
  met_of [.ref (b + 306), .int a1, .int a2] (by decide) (Nat.le_of_ble_eq_true rfl) (fun F hr hW hl => wk_X12_layWord F hr h hW va_S.rf hl)
set_option maxHeartbeats 4000000 in
set_option maxRecDepth 100000 in
theorem k_X12_layWord {own : String} {nL : Nat} (F : FX (fg G) b own cc nL p s m args meth c) {n : Nat} {a1 : Int32} {a2 : Int32} {μ : Mm} {out : Mm} (h : sh_X12_layWord n a1 a2 μ = some out) {index : Nat} (hl : Cond.methodLink own index yX12_layWord ∈ TBG) (hR : 4 + 1 ≤ R.frames ∧ 8 + (5 + 11) + 93 ≤ R.locals ∧ cells ≤ R.cells ∧ slots ≤ R.slots) (hW : WH (fg G) b μ H) (hS : va_S (fb b) s.heap H locs) (hsz : ls.size = nL) (hrest : (rest.map fun v => v.category).sum ≤ 8) (hdg : decode cc pc = .ok (.invokevirtual index, 3))
    (kk : ∀ (H1 : Heap) (locs1 : List Loc), WH (fg G) b out H1 → va_S (fb b) s.heap H1 locs1 → W p l e R s m args below meth c H1 locs1 cells slots Q (F0 m (pc + 3) ls (rest))) : W p l e R s m args below meth c H locs cells slots Q (F0 m pc ls (.int a2 :: .int a1 :: .ref (b + 306) :: rest)) :=
  f_callV (As := [.int a1, .int a2]) (ci := 12) (c_X12_layWord h) ⟨rfl, rfl⟩ rfl (ky_lm kyf_306 (by decide)) (wF_12 kyf_306) q_1996 qp_99 q_14 q_1997 rfl ⟨by decide +kernel, by decide +kernel, (show (parseMethodDescriptor yX12_layWord.desc).map (fun d => d.parameters.length) = some 2 by decide +kernel)⟩ F hl hR hW hS hsz hrest rfl hdg kk
set_option maxHeartbeats 4000000 in
set_option maxRecDepth 100000 in
theorem wk_X12_layWords_20 {n : Nat} {k7 : (Int32 → Mm → Option Mm)} {out : Mm} (F : FX (fg G) b RX12 cX12_layWords 3 p s m args meth c) (hr : meth.sig.returnType = none) (hk7 : ∀ (x1 : Int32) (μ : Mm) (H : Heap) (locs : List Loc) (ls : Array Slot), k7 x1 μ = some out → WH (fg G) b μ H → va_S (fb b) s.heap H locs → lv_has ls 3 [(0, .ref (b + 306)), (1, .int x1)] → W p l e ({ frames := 5, cells := 0, slots := 0, locals := 117 } : Room) s m args below meth c H locs 0 0 (MQ below (QW (fg G) b out none) args s 0 0 (fb b)) (F0 m 7 ls [])) : ∀ (f : Nat) (x1 : Int32) (x2 : Int32) (μ : Mm) (H : Heap) (locs : List Loc) (ls : Array Slot), sh_X12_layWords_20 n k7 f x1 x2 μ = some out → WH (fg G) b μ H → va_S (fb b) s.heap H locs → lv_has ls 3 [(0, .ref (b + 306)), (1, .int x1), (2, .int x2)] → W p l e ({ frames := 5, cells := 0, slots := 0, locals := 117 } : Room) s m args below meth c H locs 0 0 (MQ below (QW (fg G) b out none) args s 0 0 (fb b)) (F0 m 20 ls []) := by
  have hx := F.1
  have hb := F.2.1
  intro f
  induction f with
  | zero =>
    intro _ _ _ _ _ _ h
    rw [sh_X12_layWords_20] at h
    cases h
  | succ f ih =>
    intro x1 x2 μ H locs ls h hW hS hl
    rw [sh_X12_layWords_20] at h
    have hk20 := ih
    refine lv_iload_n hx hb dX12_layWords_20 rfl (lv_at hl 2 rfl) ?_
    refine lv_aload_n hx hb dX12_layWords_21 rfl (lv_at hl 0 rfl) ?_
    refine lv_iload_n hx hb dX12_layWords_22 rfl (lv_at hl 1 rfl) ?_
    refine lv_iconst (v := (3 : Int32)) hx hb dX12_layWords_23 (by decide) ?_
    obtain ⟨r3, qr3, h⟩ := ob h
    refine k_X12_of F qr3 q_1735 ⟨Nat.le_of_ble_eq_true rfl, Nat.le_of_ble_eq_true rfl, Nat.le_of_ble_eq_true rfl, Nat.le_of_ble_eq_true rfl⟩ hW hS hl.1 (Nat.le_of_ble_eq_true rfl) dX12_layWords_24 (fun H locs hW hS => ?_)
    refine lv_icmp_ge (tgt := 42) hx hb dX12_layWords_27 (by decide) (fun cc => ?_) (fun cc => ?_)
    · replace h := (if_pos cc).symm.trans h
      refine lv_iinc (v := (x1 + (1 : Int32))) (lv' := [(1, .int (x1 + (1 : Int32))), (0, .ref (b + 306)), (2, .int x2)]) hx hb dX12_layWords_42 hl (k := 1) rfl rfl (by decide) rfl (fun ls hl => ?_)
      refine lv_goto (tgt := 7) hx hb dX12_layWords_45 (by decide) ?_
      exact hk7 _ _ _ _ _ h hW hS (lv_sub hl [1, 0] rfl)
    · replace h := (if_neg cc).symm.trans h
      refine lv_aload_n hx hb dX12_layWords_30 rfl (lv_at hl 0 rfl) ?_
      refine lv_iload_n hx hb dX12_layWords_31 rfl (lv_at hl 1 rfl) ?_
      refine lv_iload_n hx hb dX12_layWords_32 rfl (lv_at hl 2 rfl) ?_
      obtain ⟨r4, qr4, h⟩ := ob h
      refine k_X12_layWord F qr4 q_1994 ⟨Nat.le_of_ble_eq_true rfl, Nat.le_of_ble_eq_true rfl, Nat.le_of_ble_eq_true rfl, Nat.le_of_ble_eq_true rfl⟩ hW hS hl.1 (Nat.le_of_ble_eq_true rfl) dX12_layWords_33 (fun H locs hW hS => ?_)
      refine lv_iinc (v := (x2 + (1 : Int32))) (lv' := [(2, .int (x2 + (1 : Int32))), (0, .ref (b + 306)), (1, .int x1)]) hx hb dX12_layWords_36 hl (k := 2) rfl rfl (by decide) rfl (fun ls hl => ?_)
      refine lv_goto (tgt := 20) hx hb dX12_layWords_39 (by decide) ?_
      exact hk20 _ _ _ _ _ _ h hW hS (lv_sub hl [1, 2, 0] rfl)
set_option maxHeartbeats 4000000 in
set_option maxRecDepth 100000 in
theorem wk_X12_layWords_7 {n : Nat} {out : Mm} (F : FX (fg G) b RX12 cX12_layWords 3 p s m args meth c) (hr : meth.sig.returnType = none) : ∀ (f : Nat) (x1 : Int32) (μ : Mm) (H : Heap) (locs : List Loc) (ls : Array Slot), sh_X12_layWords_7 n f x1 μ = some out → WH (fg G) b μ H → va_S (fb b) s.heap H locs → lv_has ls 3 [(0, .ref (b + 306)), (1, .int x1)] → W p l e ({ frames := 5, cells := 0, slots := 0, locals := 117 } : Room) s m args below meth c H locs 0 0 (MQ below (QW (fg G) b out none) args s 0 0 (fb b)) (F0 m 7 ls []) := by
  have hx := F.1
  have hb := F.2.1
  intro f
  induction f with
  | zero =>
    intro _ _ _ _ _ h
    rw [sh_X12_layWords_7] at h
    cases h
  | succ f ih =>
    intro x1 μ H locs ls h hW hS hl
    rw [sh_X12_layWords_7] at h
    have hk7 := ih
    refine lv_iload_n hx hb dX12_layWords_7 rfl (lv_at hl 1 rfl) ?_
    refine lv_aload_n hx hb dX12_layWords_8 rfl (lv_at hl 0 rfl) ?_
    refine fl_get12 (v := .ref (b + 307)) kyf_306 F hW 1 (by decide) q_1472 rfl rfl dX12_layWords_9 ?_
    refine lv_bipush (v := (9 : Int32)) hx hb dX12_layWords_12 (by decide) ?_
    obtain ⟨v2, qv2, h⟩ := ob h
    refine fm_iald kyf_307 F hW qv2 dX12_layWords_14 ?_
    refine lv_icmp_ge (tgt := 48) hx hb dX12_layWords_15 (by decide) (fun cc => ?_) (fun cc => ?_)
    · replace h := (if_pos cc).symm.trans h
      cases h
      exact r_void F hr hW hS dX12_layWords_48
    · replace h := (if_neg cc).symm.trans h
      refine lv_iconst (v := (0 : Int32)) hx hb dX12_layWords_18 (by decide) ?_
      refine lv_istore_n (lv' := [(2, .int (0 : Int32)), (0, .ref (b + 306)), (1, .int x1)]) hx hb dX12_layWords_19 rfl hl (by decide) rfl (fun ls hl => ?_)
      exact wk_X12_layWords_20 F hr hk7 n _ _ _ _ _ _ h hW hS (lv_sub hl [1, 2, 0] rfl)
set_option maxHeartbeats 4000000 in
set_option maxRecDepth 100000 in
theorem wk_X12_layWords {n : Nat} {μ : Mm} {out : Mm} (F : FX (fg G) b RX12 cX12_layWords 3 p s m args meth c) (hr : meth.sig.returnType = none) (h : sh_X12_layWords n  μ = some out) (hW : WH (fg G) b μ H) (hS : va_S (fb b) s.heap H locs) (hl : lv_has ls 3 [(0, .ref (b + 306))]) : W p l e ({ frames := 5, cells := 0, slots := 0, locals := 117 } : Room) s m args below meth c H locs 0 0 (MQ below (QW (fg G) b out none) args s 0 0 (fb b)) (F0 m 0 ls []) := by
  have hx := F.1
  have hb := F.2.1
  unfold sh_X12_layWords at h
  refine lv_aload_n hx hb dX12_layWords_0 rfl (lv_at hl 0 rfl) ?_
  refine lv_iconst (v := (0 : Int32)) hx hb dX12_layWords_1 (by decide) ?_
  obtain ⟨μ1, hmμ1, h⟩ := ob h
  refine fl_put12_44 kyf_306 F hW hS q_1515 hmμ1 dX12_layWords_2 (fun H locs hW hS => ?_)
  refine lv_iconst (v := (0 : Int32)) hx hb dX12_layWords_5 (by decide) ?_
  refine lv_istore_n (lv' := [(1, .int (0 : Int32)), (0, .ref (b + 306))]) hx hb dX12_layWords_6 rfl hl (by decide) rfl (fun ls hl => ?_)
  exact wk_X12_layWords_7 F hr n _ _ _ _ _ h hW hS (lv_sub hl [1, 0] rfl)
set_option maxHeartbeats 4000000 in
set_option maxRecDepth 100000 in
theorem c_X12_layWords {l : Launch} {G : Gt} {b : Nat} {n : Nat} {μ : Mm} {out : Mm} (h : sh_X12_layWords n  μ = some out) : Met l yX12_layWords (wU (Cond.code yX12_layWords cX12_layWords 3 none)) ({ frames := 5, cells := 0, slots := 0, locals := 117 } : Room) (PcW (fg G) b μ [.ref (b + 306)]) (QW (fg G) b out none) 0 0 (fb b) :=
  met_of [.ref (b + 306)] (by decide) (Nat.le_of_ble_eq_true rfl) (fun F hr hW hl => wk_X12_layWords F hr h hW va_S.rf hl)
set_option maxHeartbeats 4000000 in
set_option maxRecDepth 100000 in
theorem k_X12_layWords {own : String} {nL : Nat} (F : FX (fg G) b own cc nL p s m args meth c) {n : Nat} {μ : Mm} {out : Mm} (h : sh_X12_layWords n  μ = some out) {index : Nat} (hl : Cond.methodLink own index yX12_layWords ∈ TBG) (hR : 5 + 1 ≤ R.frames ∧ 8 + (3 + 11) + 117 ≤ R.locals ∧ cells ≤ R.cells ∧ slots ≤ R.slots) (hW : WH (fg G) b μ H) (hS : va_S (fb b) s.heap H locs) (hsz : ls.size = nL) (hrest : (rest.map fun v => v.category).sum ≤ 8) (hdg : decode cc pc = .ok (.invokevirtual index, 3))
    (kk : ∀ (H1 : Heap) (locs1 : List Loc), WH (fg G) b out H1 → va_S (fb b) s.heap H1 locs1 → W p l e R s m args below meth c H1 locs1 cells slots Q (F0 m (pc + 3) ls (rest))) : W p l e R s m args below meth c H locs cells slots Q (F0 m pc ls (.ref (b + 306) :: rest)) :=
  f_callV (As := []) (ci := 12) (c_X12_layWords h) ⟨rfl, rfl⟩ rfl (ky_lm kyf_306 (by decide)) (wF_12 kyf_306) q_1992 qp_98 q_14 q_1993 rfl ⟨by decide +kernel, by decide +kernel, (show (parseMethodDescriptor yX12_layWords.desc).map (fun d => d.parameters.length) = some 0 by decide +kernel)⟩ F hl hR hW hS hsz hrest rfl hdg kk
set_option maxHeartbeats 4000000 in
set_option maxRecDepth 100000 in
theorem wk_X12_wordCount {n : Nat} {μ : Mm} {out : (Int32 × Mm)} (F : FX (fg G) b RX12 cX12_wordCount 1 p s m args meth c) (hr : meth.sig.returnType = some .int) (h : sh_X12_wordCount n  μ = some out) (hW : WH (fg G) b μ H) (hS : va_S (fb b) s.heap H locs) (hl : lv_has ls 1 [(0, .ref (b + 306))]) : W p l e ({ frames := 6, cells := 0, slots := 0, locals := 139 } : Room) s m args below meth c H locs 0 0 (MQ below (QW (fg G) b out.2 (some (.int out.1))) args s 0 0 (fb b)) (F0 m 0 ls []) := by
  have hx := F.1
  have hb := F.2.1
  unfold sh_X12_wordCount at h
  refine lv_aload_n hx hb dX12_wordCount_0 rfl (lv_at hl 0 rfl) ?_
  refine lv_iconst (v := (0 : Int32)) hx hb dX12_wordCount_1 (by decide) ?_
  obtain ⟨μ1, hmμ1, h⟩ := ob h
  refine fl_put12_0 kyf_306 F hW hS q_1471 hmμ1 dX12_wordCount_2 (fun H locs hW hS => ?_)
  refine lv_aload_n hx hb dX12_wordCount_5 rfl (lv_at hl 0 rfl) ?_
  obtain ⟨r2, qr2, h⟩ := ob h
  refine k_X12_layWords F qr2 q_1990 ⟨Nat.le_of_ble_eq_true rfl, Nat.le_of_ble_eq_true rfl, Nat.le_of_ble_eq_true rfl, Nat.le_of_ble_eq_true rfl⟩ hW hS hl.1 (Nat.le_of_ble_eq_true rfl) dX12_wordCount_6 (fun H locs hW hS => ?_)
  refine lv_aload_n hx hb dX12_wordCount_9 rfl (lv_at hl 0 rfl) ?_
  refine fl_get12 (v := .int (r2.1 306 44)) kyf_306 F hW 44 (by decide) q_1515 rfl rfl dX12_wordCount_10 ?_
  cases h
  exact r_int F hr hW hS dX12_wordCount_13
set_option maxHeartbeats 4000000 in
set_option maxRecDepth 100000 in
theorem c_X12_wordCount {l : Launch} {G : Gt} {b : Nat} {n : Nat} {μ : Mm} {out : (Int32 × Mm)} (h : sh_X12_wordCount n  μ = some out) : Met l yX12_wordCount (wU (Cond.code yX12_wordCount cX12_wordCount 1 (some .int))) ({ frames := 6, cells := 0, slots := 0, locals := 139 } : Room) (PcW (fg G) b μ [.ref (b + 306)]) (QW (fg G) b out.2 (some (.int out.1))) 0 0 (fb b) :=
  met_of [.ref (b + 306)] (by decide) (Nat.le_of_ble_eq_true rfl) (fun F hr hW hl => wk_X12_wordCount F hr h hW va_S.rf hl)
set_option maxHeartbeats 4000000 in
set_option maxRecDepth 100000 in
theorem k_X12_wordCount {own : String} {nL : Nat} (F : FX (fg G) b own cc nL p s m args meth c) {n : Nat} {μ : Mm} {out : (Int32 × Mm)} (h : sh_X12_wordCount n  μ = some out) {index : Nat} (hl : Cond.methodLink own index yX12_wordCount ∈ TBG) (hR : 6 + 1 ≤ R.frames ∧ 8 + (1 + 11) + 139 ≤ R.locals ∧ cells ≤ R.cells ∧ slots ≤ R.slots) (hW : WH (fg G) b μ H) (hS : va_S (fb b) s.heap H locs) (hsz : ls.size = nL) (hrest : (rest.map fun v => v.category).sum ≤ 8) (hdg : decode cc pc = .ok (.invokevirtual index, 3))
    (kk : ∀ (H1 : Heap) (locs1 : List Loc), WH (fg G) b out.2 H1 → va_S (fb b) s.heap H1 locs1 → W p l e R s m args below meth c H1 locs1 cells slots Q (F0 m (pc + 3) ls (.int out.1 :: rest))) : W p l e R s m args below meth c H locs cells slots Q (F0 m pc ls (.ref (b + 306) :: rest)) :=
  f_callV (As := []) (ci := 12) (c_X12_wordCount h) ⟨rfl, rfl⟩ rfl (ky_lm kyf_306 (by decide)) (wF_12 kyf_306) q_1987 q_1988 q_14 q_1989 rfl ⟨by decide +kernel, by decide +kernel, (show (parseMethodDescriptor yX12_wordCount.desc).map (fun d => d.parameters.length) = some 0 by decide +kernel)⟩ F hl hR hW hS hsz hrest rfl hdg kk
set_option maxHeartbeats 4000000 in
set_option maxRecDepth 100000 in
theorem wk_X12_wordSections_44 {n : Nat} {a1 : Int32} {k30 : (Int32 → Int32 → Mm → Option (Int32 × Mm))} {out : (Int32 × Mm)} (F : FX (fg G) b RX12 cX12_wordSections 5 p s m args meth c) (hr : meth.sig.returnType = some .int) (hk30 : ∀ (x2 : Int32) (x3 : Int32) (μ : Mm) (H : Heap) (locs : List Loc) (ls : Array Slot), k30 x2 x3 μ = some out → WH (fg G) b μ H → va_S (fb b) s.heap H locs → lv_has ls 5 [(0, .ref (b + 306)), (1, .int a1), (2, .int x2), (3, .int x3)] → W p l e ({ frames := 6, cells := 0, slots := 0, locals := 139 } : Room) s m args below meth c H locs 0 0 (MQ below (QW (fg G) b out.2 (some (.int out.1))) args s 0 0 (fb b)) (F0 m 30 ls [])) : ∀ (f : Nat) (x2 : Int32) (x3 : Int32) (x4 : Int32) (μ : Mm) (H : Heap) (locs : List Loc) (ls : Array Slot), sh_X12_wordSections_44 n a1 k30 f x2 x3 x4 μ = some out → WH (fg G) b μ H → va_S (fb b) s.heap H locs → lv_has ls 5 [(0, .ref (b + 306)), (1, .int a1), (2, .int x2), (3, .int x3), (4, .int x4)] → W p l e ({ frames := 6, cells := 0, slots := 0, locals := 139 } : Room) s m args below meth c H locs 0 0 (MQ below (QW (fg G) b out.2 (some (.int out.1))) args s 0 0 (fb b)) (F0 m 44 ls []) := by
  have hx := F.1
  have hb := F.2.1
  intro f
  induction f with
  | zero =>
    intro _ _ _ _ _ _ _ h
    rw [sh_X12_wordSections_44] at h
    cases h
  | succ f ih =>
    intro x2 x3 x4 μ H locs ls h hW hS hl
    rw [sh_X12_wordSections_44] at h
    have hk44 := ih
    refine lv_iload hx hb dX12_wordSections_44 (lv_at hl 4 rfl) ?_
    refine lv_aload_n hx hb dX12_wordSections_46 rfl (lv_at hl 0 rfl) ?_
    refine lv_iload_n hx hb dX12_wordSections_47 rfl (lv_at hl 3 rfl) ?_
    refine lv_iconst (v := (3 : Int32)) hx hb dX12_wordSections_48 (by decide) ?_
    obtain ⟨r5, qr5, h⟩ := ob h
    refine k_X12_of F qr5 q_1735 ⟨Nat.le_of_ble_eq_true rfl, Nat.le_of_ble_eq_true rfl, Nat.le_of_ble_eq_true rfl, Nat.le_of_ble_eq_true rfl⟩ hW hS hl.1 (Nat.le_of_ble_eq_true rfl) dX12_wordSections_49 (fun H locs hW hS => ?_)
    refine lv_icmp_ge (tgt := 78) hx hb dX12_wordSections_52 (by decide) (fun cc => ?_) (fun cc => ?_)
    · replace h := (if_pos cc).symm.trans h
      refine lv_iinc (v := (x3 + (1 : Int32))) (lv' := [(3, .int (x3 + (1 : Int32))), (0, .ref (b + 306)), (1, .int a1), (2, .int x2), (4, .int x4)]) hx hb dX12_wordSections_78 hl (k := 3) rfl rfl (by decide) rfl (fun ls hl => ?_)
      refine lv_goto (tgt := 30) hx hb dX12_wordSections_81 (by decide) ?_
      exact hk30 _ _ _ _ _ _ h hW hS (lv_sub hl [1, 2, 3, 0] rfl)
    · replace h := (if_neg cc).symm.trans h
      refine lv_aload_n hx hb dX12_wordSections_55 rfl (lv_at hl 0 rfl) ?_
      refine lv_iload_n hx hb dX12_wordSections_56 rfl (lv_at hl 3 rfl) ?_
      refine lv_iload hx hb dX12_wordSections_57 (lv_at hl 4 rfl) ?_
      refine lv_iload_n hx hb dX12_wordSections_59 rfl (lv_at hl 1 rfl) ?_
      obtain ⟨r6, qr6, h⟩ := ob h
      refine k_X12_compareTo F qr6 q_1998 ⟨Nat.le_of_ble_eq_true rfl, Nat.le_of_ble_eq_true rfl, Nat.le_of_ble_eq_true rfl, Nat.le_of_ble_eq_true rfl⟩ hW hS hl.1 (Nat.le_of_ble_eq_true rfl) dX12_wordSections_60 (fun H locs hW hS => ?_)
      refine lv_if_ne (tgt := 72) hx hb dX12_wordSections_63 (by decide) (fun cc => ?_) (fun cc => ?_)
      · replace h := (if_neg cc).symm.trans h
        refine lv_iinc (v := (x4 + (1 : Int32))) (lv' := [(4, .int (x4 + (1 : Int32))), (0, .ref (b + 306)), (1, .int a1), (2, .int x2), (3, .int x3)]) hx hb dX12_wordSections_72 hl (k := 4) rfl rfl (by decide) rfl (fun ls hl => ?_)
        refine lv_goto (tgt := 44) hx hb dX12_wordSections_75 (by decide) ?_
        exact hk44 _ _ _ _ _ _ _ h hW hS (lv_sub hl [1, 2, 3, 4, 0] rfl)
      · replace h := (if_pos cc).symm.trans h
        refine lv_iload_n hx hb dX12_wordSections_66 rfl (lv_at hl 2 rfl) ?_
        refine lv_iconst (v := (1 : Int32)) hx hb dX12_wordSections_67 (by decide) ?_
        refine lv_iload_n hx hb dX12_wordSections_68 rfl (lv_at hl 3 rfl) ?_
        refine lv_ishl hx hb dX12_wordSections_69 ?_
        refine lv_ior hx hb dX12_wordSections_70 ?_
        obtain ⟨v7, ev7⟩ : ∃ y, y = (x2 ||| ((1 : Int32) <<< (x3 &&& 31))) := ⟨_, rfl⟩
        have h := nm_at ev7 h
        rw [← ev7]
        refine lv_istore_n (lv' := [(2, .int v7), (0, .ref (b + 306)), (1, .int a1), (3, .int x3), (4, .int x4)]) hx hb dX12_wordSections_71 rfl hl (by decide) rfl (fun ls hl => ?_)
        refine lv_iinc (v := (x4 + (1 : Int32))) (lv' := [(4, .int (x4 + (1 : Int32))), (2, .int v7), (0, .ref (b + 306)), (1, .int a1), (3, .int x3)]) hx hb dX12_wordSections_72 hl (k := 4) rfl rfl (by decide) rfl (fun ls hl => ?_)
        refine lv_goto (tgt := 44) hx hb dX12_wordSections_75 (by decide) ?_
        exact hk44 _ _ _ _ _ _ _ h hW hS (lv_sub hl [2, 3, 1, 4, 0] rfl)
set_option maxHeartbeats 4000000 in
set_option maxRecDepth 100000 in
theorem wk_X12_wordSections_30 {n : Nat} {a1 : Int32} {out : (Int32 × Mm)} (F : FX (fg G) b RX12 cX12_wordSections 5 p s m args meth c) (hr : meth.sig.returnType = some .int) : ∀ (f : Nat) (x2 : Int32) (x3 : Int32) (μ : Mm) (H : Heap) (locs : List Loc) (ls : Array Slot), sh_X12_wordSections_30 n a1 f x2 x3 μ = some out → WH (fg G) b μ H → va_S (fb b) s.heap H locs → lv_has ls 5 [(0, .ref (b + 306)), (1, .int a1), (2, .int x2), (3, .int x3)] → W p l e ({ frames := 6, cells := 0, slots := 0, locals := 139 } : Room) s m args below meth c H locs 0 0 (MQ below (QW (fg G) b out.2 (some (.int out.1))) args s 0 0 (fb b)) (F0 m 30 ls []) := by
  have hx := F.1
  have hb := F.2.1
  intro f
  induction f with
  | zero =>
    intro _ _ _ _ _ _ h
    rw [sh_X12_wordSections_30] at h
    cases h
  | succ f ih =>
    intro x2 x3 μ H locs ls h hW hS hl
    rw [sh_X12_wordSections_30] at h
    have hk30 := ih
    refine lv_iload_n hx hb dX12_wordSections_30 rfl (lv_at hl 3 rfl) ?_
    refine lv_aload_n hx hb dX12_wordSections_31 rfl (lv_at hl 0 rfl) ?_
    refine fl_get12 (v := .ref (b + 307)) kyf_306 F hW 1 (by decide) q_1472 rfl rfl dX12_wordSections_32 ?_
    refine lv_bipush (v := (9 : Int32)) hx hb dX12_wordSections_35 (by decide) ?_
    obtain ⟨v4, qv4, h⟩ := ob h
    refine fm_iald kyf_307 F hW qv4 dX12_wordSections_37 ?_
    refine lv_icmp_ge (tgt := 84) hx hb dX12_wordSections_38 (by decide) (fun cc => ?_) (fun cc => ?_)
    · replace h := (if_pos cc).symm.trans h
      refine lv_iload_n hx hb dX12_wordSections_84 rfl (lv_at hl 2 rfl) ?_
      cases h
      exact r_int F hr hW hS dX12_wordSections_85
    · replace h := (if_neg cc).symm.trans h
      refine lv_iconst (v := (0 : Int32)) hx hb dX12_wordSections_41 (by decide) ?_
      refine lv_istore (lv' := [(4, .int (0 : Int32)), (0, .ref (b + 306)), (1, .int a1), (2, .int x2), (3, .int x3)]) hx hb dX12_wordSections_42 hl (by decide) rfl (fun ls hl => ?_)
      exact wk_X12_wordSections_44 F hr hk30 n _ _ _ _ _ _ _ h hW hS (lv_sub hl [1, 2, 3, 4, 0] rfl)
set_option maxHeartbeats 4000000 in
set_option maxRecDepth 100000 in
theorem wk_X12_wordSections {n : Nat} {a1 : Int32} {μ : Mm} {out : (Int32 × Mm)} (F : FX (fg G) b RX12 cX12_wordSections 5 p s m args meth c) (hr : meth.sig.returnType = some .int) (h : sh_X12_wordSections n a1 μ = some out) (hW : WH (fg G) b μ H) (hS : va_S (fb b) s.heap H locs) (hl : lv_has ls 5 [(0, .ref (b + 306)), (1, .int a1)]) : W p l e ({ frames := 6, cells := 0, slots := 0, locals := 139 } : Room) s m args below meth c H locs 0 0 (MQ below (QW (fg G) b out.2 (some (.int out.1))) args s 0 0 (fb b)) (F0 m 0 ls []) := by
  have hx := F.1
  have hb := F.2.1
  unfold sh_X12_wordSections at h
  refine lv_aload_n hx hb dX12_wordSections_0 rfl (lv_at hl 0 rfl) ?_
  obtain ⟨r1, qr1, h⟩ := ob h
  refine k_X12_layWords F qr1 q_1990 ⟨Nat.le_of_ble_eq_true rfl, Nat.le_of_ble_eq_true rfl, Nat.le_of_ble_eq_true rfl, Nat.le_of_ble_eq_true rfl⟩ hW hS hl.1 (Nat.le_of_ble_eq_true rfl) dX12_wordSections_1 (fun H locs hW hS => ?_)
  refine lv_aload_n hx hb dX12_wordSections_4 rfl (lv_at hl 0 rfl) ?_
  refine lv_iload_n hx hb dX12_wordSections_5 rfl (lv_at hl 1 rfl) ?_
  refine lv_i2l hx hb dX12_wordSections_6 rfl ?_
  refine lv_lconst (v := (0 : Int64)) hx hb dX12_wordSections_7 (by decide) ?_
  refine lv_aload_n hx hb dX12_wordSections_8 rfl (lv_at hl 0 rfl) ?_
  refine fl_get12 (v := .int (r1.1 306 44)) kyf_306 F hW 44 (by decide) q_1515 rfl rfl dX12_wordSections_9 ?_
  refine lv_iconst (v := (1 : Int32)) hx hb dX12_wordSections_12 (by decide) ?_
  refine lv_isub hx hb dX12_wordSections_13 ?_
  refine lv_i2l hx hb dX12_wordSections_14 rfl ?_
  obtain ⟨r2, qr2, h⟩ := ob h
  refine k_X12_in F qr2 q_1643 ⟨Nat.le_of_ble_eq_true rfl, Nat.le_of_ble_eq_true rfl, Nat.le_of_ble_eq_true rfl, Nat.le_of_ble_eq_true rfl⟩ hW hS hl.1 (Nat.le_of_ble_eq_true rfl) dX12_wordSections_15 (fun H locs hW hS => ?_)
  obtain ⟨r3, qr3, h⟩ := ob h
  refine k_X12_passes F qr3 q_1627 ⟨Nat.le_of_ble_eq_true rfl, Nat.le_of_ble_eq_true rfl, Nat.le_of_ble_eq_true rfl, Nat.le_of_ble_eq_true rfl⟩ hW hS hl.1 (Nat.le_of_ble_eq_true rfl) dX12_wordSections_18 (fun H locs hW hS => ?_)
  refine lv_if_ne (tgt := 26) hx hb dX12_wordSections_21 (by decide) (fun cc => ?_) (fun cc => ?_)
  · replace h := (if_neg cc).symm.trans h
    refine lv_iconst (v := (0 : Int32)) hx hb dX12_wordSections_26 (by decide) ?_
    refine lv_istore_n (lv' := [(2, .int (0 : Int32)), (0, .ref (b + 306)), (1, .int a1)]) hx hb dX12_wordSections_27 rfl hl (by decide) rfl (fun ls hl => ?_)
    refine lv_iconst (v := (0 : Int32)) hx hb dX12_wordSections_28 (by decide) ?_
    refine lv_istore_n (lv' := [(3, .int (0 : Int32)), (2, .int (0 : Int32)), (0, .ref (b + 306)), (1, .int a1)]) hx hb dX12_wordSections_29 rfl hl (by decide) rfl (fun ls hl => ?_)
    exact wk_X12_wordSections_30 F hr n _ _ _ _ _ _ h hW hS (lv_sub hl [2, 3, 1, 0] rfl)
  · replace h := (if_pos cc).symm.trans h
    refine lv_iconst (v := (0 : Int32)) hx hb dX12_wordSections_24 (by decide) ?_
    cases h
    exact r_int F hr hW hS dX12_wordSections_25
set_option maxHeartbeats 4000000 in
set_option maxRecDepth 100000 in
theorem c_X12_wordSections {l : Launch} {G : Gt} {b : Nat} {n : Nat} {a1 : Int32} {μ : Mm} {out : (Int32 × Mm)} (h : sh_X12_wordSections n a1 μ = some out) : Met l yX12_wordSections (wU (Cond.code yX12_wordSections cX12_wordSections 5 (some .int))) ({ frames := 6, cells := 0, slots := 0, locals := 139 } : Room) (PcW (fg G) b μ [.ref (b + 306), .int a1]) (QW (fg G) b out.2 (some (.int out.1))) 0 0 (fb b) :=
  met_of [.ref (b + 306), .int a1] (by decide) (Nat.le_of_ble_eq_true rfl) (fun F hr hW hl => wk_X12_wordSections F hr h hW va_S.rf hl)
set_option maxHeartbeats 4000000 in
set_option maxRecDepth 100000 in
theorem k_X12_wordSections {own : String} {nL : Nat} (F : FX (fg G) b own cc nL p s m args meth c) {n : Nat} {a1 : Int32} {μ : Mm} {out : (Int32 × Mm)} (h : sh_X12_wordSections n a1 μ = some out) {index : Nat} (hl : Cond.methodLink own index yX12_wordSections ∈ TBG) (hR : 6 + 1 ≤ R.frames ∧ 8 + (5 + 11) + 139 ≤ R.locals ∧ cells ≤ R.cells ∧ slots ≤ R.slots) (hW : WH (fg G) b μ H) (hS : va_S (fb b) s.heap H locs) (hsz : ls.size = nL) (hrest : (rest.map fun v => v.category).sum ≤ 8) (hdg : decode cc pc = .ok (.invokevirtual index, 3))
    (kk : ∀ (H1 : Heap) (locs1 : List Loc), WH (fg G) b out.2 H1 → va_S (fb b) s.heap H1 locs1 → W p l e R s m args below meth c H1 locs1 cells slots Q (F0 m (pc + 3) ls (.int out.1 :: rest))) : W p l e R s m args below meth c H locs cells slots Q (F0 m pc ls (.int a1 :: .ref (b + 306) :: rest)) :=
  f_callV (As := [.int a1]) (ci := 12) (c_X12_wordSections h) ⟨rfl, rfl⟩ rfl (ky_lm kyf_306 (by decide)) (wF_12 kyf_306) q_2007 q_2008 q_14 q_2009 rfl ⟨by decide +kernel, by decide +kernel, (show (parseMethodDescriptor yX12_wordSections.desc).map (fun d => d.parameters.length) = some 1 by decide +kernel)⟩ F hl hR hW hS hsz hrest rfl hdg kk
set_option maxHeartbeats 4000000 in
set_option maxRecDepth 100000 in
theorem wk_X12_isInput_18 {n : Nat} {a1 : Int32} {a2 : Int32} {μ : Mm} {out : Int32} (F : FX (fg G) b RX12 cX12_isInput 5 p s m args meth c) (hr : meth.sig.returnType = some .boolean) : ∀ (f : Nat) (x3 : Int32) (x4 : Int32) (H : Heap) (locs : List Loc) (ls : Array Slot), sh_X12_isInput_18 n a1 a2 μ f x3 x4 = some out → WH (fg G) b μ H → va_S (fb b) s.heap H locs → lv_has ls 5 [(0, .ref (b + 306)), (1, .int a1), (2, .int a2), (3, .int x3), (4, .int x4)] → W p l e ({ frames := 2, cells := 0, slots := 0, locals := 45 } : Room) s m args below meth c H locs 0 0 (MQ below (QW (fg G) b μ (some (.int out))) args s 0 0 (fb b)) (F0 m 18 ls []) := by
  have hx := F.1
  have hb := F.2.1
  intro f
  induction f with
  | zero =>
    intro _ _ _ _ _ h
    rw [sh_X12_isInput_18] at h
    cases h
  | succ f ih =>
    intro x3 x4  H locs ls h hW hS hl
    rw [sh_X12_isInput_18] at h
    have hk18 := ih
    refine lv_iload hx hb dX12_isInput_18 (lv_at hl 4 rfl) ?_
    refine lv_bipush (v := (12 : Int32)) hx hb dX12_isInput_20 (by decide) ?_
    refine lv_icmp_ge (tgt := 97) hx hb dX12_isInput_22 (by decide) (fun cc => ?_) (fun cc => ?_)
    · replace h := (if_pos cc).symm.trans h
      refine lv_iload_n hx hb dX12_isInput_97 rfl (lv_at hl 3 rfl) ?_
      obtain ⟨v1, qv1, h⟩ := ob h
      obtain ⟨zv1, qv1⟩ := isB_some qv1
      rw [qv1] at zv1
      rw [qv1]
      cases h
      exact r_bool F hr zv1 hW hS dX12_isInput_98
    · replace h := (if_neg cc).symm.trans h
      refine lv_iload_n hx hb dX12_isInput_25 rfl (lv_at hl 3 rfl) ?_
      refine lv_if_eq (tgt := 97) hx hb dX12_isInput_26 (by decide) (fun cc => ?_) (fun cc => ?_)
      · replace h := (if_pos cc).symm.trans h
        refine lv_iload_n hx hb dX12_isInput_97 rfl (lv_at hl 3 rfl) ?_
        obtain ⟨v2, qv2, h⟩ := ob h
        obtain ⟨zv2, qv2⟩ := isB_some qv2
        rw [qv2] at zv2
        rw [qv2]
        cases h
        exact r_bool F hr zv2 hW hS dX12_isInput_98
      · replace h := (if_neg cc).symm.trans h
        refine lv_iload hx hb dX12_isInput_29 (lv_at hl 4 rfl) ?_
        refine lv_aload_n hx hb dX12_isInput_31 rfl (lv_at hl 0 rfl) ?_
        refine fl_get12 (v := .int (μ.1 306 5)) kyf_306 F hW 5 (by decide) q_1476 rfl rfl dX12_isInput_32 ?_
        refine lv_icmp_ge (tgt := 74) hx hb dX12_isInput_35 (by decide) (fun cc => ?_) (fun cc => ?_)
        · replace h := (if_pos cc).symm.trans h
          refine lv_aload_n hx hb dX12_isInput_74 rfl (lv_at hl 0 rfl) ?_
          refine lv_iload_n hx hb dX12_isInput_75 rfl (lv_at hl 1 rfl) ?_
          refine lv_iload_n hx hb dX12_isInput_76 rfl (lv_at hl 2 rfl) ?_
          refine lv_iload hx hb dX12_isInput_77 (lv_at hl 4 rfl) ?_
          obtain ⟨r3, qr3, h⟩ := ob h
          refine k_X12_letterOf F qr3 q_1844 ⟨Nat.le_of_ble_eq_true rfl, Nat.le_of_ble_eq_true rfl, Nat.le_of_ble_eq_true rfl, Nat.le_of_ble_eq_true rfl⟩ hW hS hl.1 (Nat.le_of_ble_eq_true rfl) dX12_isInput_79 (fun H locs hW hS => ?_)
          refine lv_if_ne (tgt := 89) hx hb dX12_isInput_82 (by decide) (fun cc => ?_) (fun cc => ?_)
          · replace h := (if_neg cc).symm.trans h
            refine lv_iconst (v := (0 : Int32)) hx hb dX12_isInput_89 (by decide) ?_
            refine lv_istore_n (lv' := [(3, .int (0 : Int32)), (0, .ref (b + 306)), (1, .int a1), (2, .int a2), (4, .int x4)]) hx hb dX12_isInput_90 rfl hl (by decide) rfl (fun ls hl => ?_)
            refine lv_iinc (v := (x4 + (1 : Int32))) (lv' := [(4, .int (x4 + (1 : Int32))), (3, .int (0 : Int32)), (0, .ref (b + 306)), (1, .int a1), (2, .int a2)]) hx hb dX12_isInput_91 hl (k := 4) rfl rfl (by decide) rfl (fun ls hl => ?_)
            refine lv_goto (tgt := 18) hx hb dX12_isInput_94 (by decide) ?_
            exact hk18 _ _ _ _ _ h hW hS (lv_sub hl [2, 3, 4, 1, 0] rfl)
          · replace h := (if_pos cc).symm.trans h
            refine lv_iconst (v := (1 : Int32)) hx hb dX12_isInput_85 (by decide) ?_
            refine lv_goto (tgt := 90) hx hb dX12_isInput_86 (by decide) ?_
            refine lv_istore_n (lv' := [(3, .int (1 : Int32)), (0, .ref (b + 306)), (1, .int a1), (2, .int a2), (4, .int x4)]) hx hb dX12_isInput_90 rfl hl (by decide) rfl (fun ls hl => ?_)
            refine lv_iinc (v := (x4 + (1 : Int32))) (lv' := [(4, .int (x4 + (1 : Int32))), (3, .int (1 : Int32)), (0, .ref (b + 306)), (1, .int a1), (2, .int a2)]) hx hb dX12_isInput_91 hl (k := 4) rfl rfl (by decide) rfl (fun ls hl => ?_)
            refine lv_goto (tgt := 18) hx hb dX12_isInput_94 (by decide) ?_
            exact hk18 _ _ _ _ _ h hW hS (lv_sub hl [2, 3, 4, 1, 0] rfl)
        · replace h := (if_neg cc).symm.trans h
          refine lv_aload_n hx hb dX12_isInput_38 rfl (lv_at hl 0 rfl) ?_
          refine fl_get12 (v := .ref (b + 309)) kyf_306 F hW 4 (by decide) q_1475 rfl rfl dX12_isInput_39 ?_
          refine lv_iload hx hb dX12_isInput_42 (lv_at hl 4 rfl) ?_
          obtain ⟨v4, qv4, h⟩ := ob h
          refine fm_bald kyf_309 F hW qv4 dX12_isInput_44 ?_
          refine lv_if_eq (tgt := 70) hx hb dX12_isInput_45 (by decide) (fun cc => ?_) (fun cc => ?_)
          · replace h := (if_pos cc).symm.trans h
            refine lv_iconst (v := (0 : Int32)) hx hb dX12_isInput_70 (by decide) ?_
            refine lv_goto (tgt := 90) hx hb dX12_isInput_71 (by decide) ?_
            refine lv_istore_n (lv' := [(3, .int (0 : Int32)), (0, .ref (b + 306)), (1, .int a1), (2, .int a2), (4, .int x4)]) hx hb dX12_isInput_90 rfl hl (by decide) rfl (fun ls hl => ?_)
            refine lv_iinc (v := (x4 + (1 : Int32))) (lv' := [(4, .int (x4 + (1 : Int32))), (3, .int (0 : Int32)), (0, .ref (b + 306)), (1, .int a1), (2, .int a2)]) hx hb dX12_isInput_91 hl (k := 4) rfl rfl (by decide) rfl (fun ls hl => ?_)
            refine lv_goto (tgt := 18) hx hb dX12_isInput_94 (by decide) ?_
            exact hk18 _ _ _ _ _ h hW hS (lv_sub hl [2, 3, 4, 1, 0] rfl)
          · replace h := (if_neg cc).symm.trans h
            refine lv_aload_n hx hb dX12_isInput_48 rfl (lv_at hl 0 rfl) ?_
            refine lv_iload_n hx hb dX12_isInput_49 rfl (lv_at hl 1 rfl) ?_
            refine lv_iload_n hx hb dX12_isInput_50 rfl (lv_at hl 2 rfl) ?_
            refine lv_iload hx hb dX12_isInput_51 (lv_at hl 4 rfl) ?_
            obtain ⟨r5, qr5, h⟩ := ob h
            refine k_X12_letterOf F qr5 q_1844 ⟨Nat.le_of_ble_eq_true rfl, Nat.le_of_ble_eq_true rfl, Nat.le_of_ble_eq_true rfl, Nat.le_of_ble_eq_true rfl⟩ hW hS hl.1 (Nat.le_of_ble_eq_true rfl) dX12_isInput_53 (fun H locs hW hS => ?_)
            refine lv_aload_n hx hb dX12_isInput_56 rfl (lv_at hl 0 rfl) ?_
            refine fl_get12 (v := .ref (b + 309)) kyf_306 F hW 4 (by decide) q_1475 rfl rfl dX12_isInput_57 ?_
            refine lv_iload hx hb dX12_isInput_60 (lv_at hl 4 rfl) ?_
            obtain ⟨v6, qv6, h⟩ := ob h
            refine fm_bald kyf_309 F hW qv6 dX12_isInput_62 ?_
            refine lv_icmp_ne (tgt := 70) hx hb dX12_isInput_63 (by decide) (fun cc => ?_) (fun cc => ?_)
            · replace h := (if_neg cc).symm.trans h
              refine lv_iconst (v := (0 : Int32)) hx hb dX12_isInput_70 (by decide) ?_
              refine lv_goto (tgt := 90) hx hb dX12_isInput_71 (by decide) ?_
              refine lv_istore_n (lv' := [(3, .int (0 : Int32)), (0, .ref (b + 306)), (1, .int a1), (2, .int a2), (4, .int x4)]) hx hb dX12_isInput_90 rfl hl (by decide) rfl (fun ls hl => ?_)
              refine lv_iinc (v := (x4 + (1 : Int32))) (lv' := [(4, .int (x4 + (1 : Int32))), (3, .int (0 : Int32)), (0, .ref (b + 306)), (1, .int a1), (2, .int a2)]) hx hb dX12_isInput_91 hl (k := 4) rfl rfl (by decide) rfl (fun ls hl => ?_)
              refine lv_goto (tgt := 18) hx hb dX12_isInput_94 (by decide) ?_
              exact hk18 _ _ _ _ _ h hW hS (lv_sub hl [2, 3, 4, 1, 0] rfl)
            · replace h := (if_pos cc).symm.trans h
              refine lv_iconst (v := (1 : Int32)) hx hb dX12_isInput_66 (by decide) ?_
              refine lv_goto (tgt := 90) hx hb dX12_isInput_67 (by decide) ?_
              refine lv_istore_n (lv' := [(3, .int (1 : Int32)), (0, .ref (b + 306)), (1, .int a1), (2, .int a2), (4, .int x4)]) hx hb dX12_isInput_90 rfl hl (by decide) rfl (fun ls hl => ?_)
              refine lv_iinc (v := (x4 + (1 : Int32))) (lv' := [(4, .int (x4 + (1 : Int32))), (3, .int (1 : Int32)), (0, .ref (b + 306)), (1, .int a1), (2, .int a2)]) hx hb dX12_isInput_91 hl (k := 4) rfl rfl (by decide) rfl (fun ls hl => ?_)
              refine lv_goto (tgt := 18) hx hb dX12_isInput_94 (by decide) ?_
              exact hk18 _ _ _ _ _ h hW hS (lv_sub hl [2, 3, 4, 1, 0] rfl)
set_option maxHeartbeats 4000000 in
set_option maxRecDepth 100000 in
theorem wk_X12_isInput {n : Nat} {a1 : Int32} {a2 : Int32} {μ : Mm} {out : Int32} (F : FX (fg G) b RX12 cX12_isInput 5 p s m args meth c) (hr : meth.sig.returnType = some .boolean) (h : sh_X12_isInput n a1 a2 μ = some out) (hW : WH (fg G) b μ H) (hS : va_S (fb b) s.heap H locs) (hl : lv_has ls 5 [(0, .ref (b + 306)), (1, .int a1), (2, .int a2)]) : W p l e ({ frames := 2, cells := 0, slots := 0, locals := 45 } : Room) s m args below meth c H locs 0 0 (MQ below (QW (fg G) b μ (some (.int out))) args s 0 0 (fb b)) (F0 m 0 ls []) := by
  have hx := F.1
  have hb := F.2.1
  unfold sh_X12_isInput at h
  refine lv_aload_n hx hb dX12_isInput_0 rfl (lv_at hl 0 rfl) ?_
  refine fl_get12 (v := .int (μ.1 306 5)) kyf_306 F hW 5 (by decide) q_1476 rfl rfl dX12_isInput_1 ?_
  refine lv_bipush (v := (12 : Int32)) hx hb dX12_isInput_4 (by decide) ?_
  refine lv_icmp_gt (tgt := 13) hx hb dX12_isInput_6 (by decide) (fun cc => ?_) (fun cc => ?_)
  · replace h := (if_pos cc).symm.trans h
    refine lv_iconst (v := (0 : Int32)) hx hb dX12_isInput_13 (by decide) ?_
    refine lv_istore_n (lv' := [(3, .int (0 : Int32)), (0, .ref (b + 306)), (1, .int a1), (2, .int a2)]) hx hb dX12_isInput_14 rfl hl (by decide) rfl (fun ls hl => ?_)
    refine lv_iconst (v := (0 : Int32)) hx hb dX12_isInput_15 (by decide) ?_
    refine lv_istore (lv' := [(4, .int (0 : Int32)), (3, .int (0 : Int32)), (0, .ref (b + 306)), (1, .int a1), (2, .int a2)]) hx hb dX12_isInput_16 hl (by decide) rfl (fun ls hl => ?_)
    exact wk_X12_isInput_18 F hr n _ _ _ _ _ h hW hS (lv_sub hl [2, 3, 4, 1, 0] rfl)
  · replace h := (if_neg cc).symm.trans h
    refine lv_iconst (v := (1 : Int32)) hx hb dX12_isInput_9 (by decide) ?_
    refine lv_goto (tgt := 14) hx hb dX12_isInput_10 (by decide) ?_
    refine lv_istore_n (lv' := [(3, .int (1 : Int32)), (0, .ref (b + 306)), (1, .int a1), (2, .int a2)]) hx hb dX12_isInput_14 rfl hl (by decide) rfl (fun ls hl => ?_)
    refine lv_iconst (v := (0 : Int32)) hx hb dX12_isInput_15 (by decide) ?_
    refine lv_istore (lv' := [(4, .int (0 : Int32)), (3, .int (1 : Int32)), (0, .ref (b + 306)), (1, .int a1), (2, .int a2)]) hx hb dX12_isInput_16 hl (by decide) rfl (fun ls hl => ?_)
    exact wk_X12_isInput_18 F hr n _ _ _ _ _ h hW hS (lv_sub hl [2, 3, 4, 1, 0] rfl)
set_option maxHeartbeats 4000000 in
set_option maxRecDepth 100000 in
theorem c_X12_isInput {l : Launch} {G : Gt} {b : Nat} {n : Nat} {a1 : Int32} {a2 : Int32} {μ : Mm} {out : Int32} (h : sh_X12_isInput n a1 a2 μ = some out) : Met l yX12_isInput (wU (Cond.code yX12_isInput cX12_isInput 5 (some .boolean))) ({ frames := 2, cells := 0, slots := 0, locals := 45 } : Room) (PcW (fg G) b μ [.ref (b + 306), .int a1, .int a2]) (QW (fg G) b μ (some (.int out))) 0 0 (fb b) :=
  met_of [.ref (b + 306), .int a1, .int a2] (by decide) (Nat.le_of_ble_eq_true rfl) (fun F hr hW hl => wk_X12_isInput F hr h hW va_S.rf hl)
set_option maxHeartbeats 4000000 in
set_option maxRecDepth 100000 in
theorem k_X12_isInput {own : String} {nL : Nat} (F : FX (fg G) b own cc nL p s m args meth c) {n : Nat} {a1 : Int32} {a2 : Int32} {μ : Mm} {out : Int32} (h : sh_X12_isInput n a1 a2 μ = some out) {index : Nat} (hl : Cond.methodLink own index yX12_isInput ∈ TBG) (hR : 2 + 1 ≤ R.frames ∧ 8 + (5 + 11) + 45 ≤ R.locals ∧ cells ≤ R.cells ∧ slots ≤ R.slots) (hW : WH (fg G) b μ H) (hS : va_S (fb b) s.heap H locs) (hsz : ls.size = nL) (hrest : (rest.map fun v => v.category).sum ≤ 8) (hdg : decode cc pc = .ok (.invokevirtual index, 3))
    (kk : ∀ (H1 : Heap) (locs1 : List Loc), WH (fg G) b μ H1 → va_S (fb b) s.heap H1 locs1 → W p l e R s m args below meth c H1 locs1 cells slots Q (F0 m (pc + 3) ls (.int out :: rest))) : W p l e R s m args below meth c H locs cells slots Q (F0 m pc ls (.int a2 :: .int a1 :: .ref (b + 306) :: rest)) :=
  f_callV (As := [.int a1, .int a2]) (ci := 12) (c_X12_isInput h) ⟨rfl, rfl⟩ rfl (ky_lm kyf_306 (by decide)) (wF_12 kyf_306) q_2016 qp_102 q_14 q_2017 rfl ⟨by decide +kernel, by decide +kernel, (show (parseMethodDescriptor yX12_isInput.desc).map (fun d => d.parameters.length) = some 2 by decide +kernel)⟩ F hl hR hW hS hsz hrest rfl hdg kk
set_option maxHeartbeats 4000000 in
set_option maxRecDepth 100000 in
theorem wk_X12_findWord_13 {n : Nat} {out : (Int32 × Mm)} (F : FX (fg G) b RX12 cX12_findWord 3 p s m args meth c) (hr : meth.sig.returnType = some .int) : ∀ (f : Nat) (x1 : Int32) (x2 : Int32) (μ : Mm) (H : Heap) (locs : List Loc) (ls : Array Slot), sh_X12_findWord_13 n f x1 x2 μ = some out → WH (fg G) b μ H → va_S (fb b) s.heap H locs → lv_has ls 3 [(0, .ref (b + 306)), (1, .int x1), (2, .int x2)] → W p l e ({ frames := 6, cells := 0, slots := 0, locals := 139 } : Room) s m args below meth c H locs 0 0 (MQ below (QW (fg G) b out.2 (some (.int out.1))) args s 0 0 (fb b)) (F0 m 13 ls []) := by
  have hx := F.1
  have hb := F.2.1
  intro f
  induction f with
  | zero =>
    intro _ _ _ _ _ _ h
    rw [sh_X12_findWord_13] at h
    cases h
  | succ f ih =>
    intro x1 x2 μ H locs ls h hW hS hl
    rw [sh_X12_findWord_13] at h
    have hk13 := ih
    refine lv_iload_n hx hb dX12_findWord_13 rfl (lv_at hl 2 rfl) ?_
    refine lv_aload_n hx hb dX12_findWord_14 rfl (lv_at hl 0 rfl) ?_
    refine fl_get12 (v := .int (μ.1 306 44)) kyf_306 F hW 44 (by decide) q_1515 rfl rfl dX12_findWord_15 ?_
    refine lv_icmp_ge (tgt := 54) hx hb dX12_findWord_18 (by decide) (fun cc => ?_) (fun cc => ?_)
    · replace h := (if_pos cc).symm.trans h
      refine lv_aload_n hx hb dX12_findWord_54 rfl (lv_at hl 0 rfl) ?_
      refine lv_iconst (v := (0 : Int32)) hx hb dX12_findWord_55 (by decide) ?_
      obtain ⟨μ3, hmμ3, h⟩ := ob h
      refine fl_put12_5 kyf_306 F hW hS q_1476 hmμ3 dX12_findWord_56 (fun H locs hW hS => ?_)
      refine lv_iload_n hx hb dX12_findWord_59 rfl (lv_at hl 1 rfl) ?_
      cases h
      exact r_int F hr hW hS dX12_findWord_60
    · replace h := (if_neg cc).symm.trans h
      refine lv_aload_n hx hb dX12_findWord_21 rfl (lv_at hl 0 rfl) ?_
      refine lv_aload_n hx hb dX12_findWord_22 rfl (lv_at hl 0 rfl) ?_
      refine fl_get12 (v := .ref (b + 327)) kyf_306 F hW 43 (by decide) q_1514 rfl rfl dX12_findWord_23 ?_
      refine lv_iload_n hx hb dX12_findWord_26 rfl (lv_at hl 2 rfl) ?_
      obtain ⟨v4, qv4, h⟩ := ob h
      refine fm_iald kyf_327 F hW qv4 dX12_findWord_27 ?_
      refine lv_bipush (v := (8 : Int32)) hx hb dX12_findWord_28 (by decide) ?_
      obtain ⟨v5, qv5, h⟩ := ob h
      obtain ⟨zv5, qv5⟩ := dv_some qv5
      refine lv_idiv hx hb dX12_findWord_30 zv5 ?_
      rw [qv5]
      refine lv_aload_n hx hb dX12_findWord_31 rfl (lv_at hl 0 rfl) ?_
      refine fl_get12 (v := .ref (b + 327)) kyf_306 F hW 43 (by decide) q_1514 rfl rfl dX12_findWord_32 ?_
      refine lv_iload_n hx hb dX12_findWord_35 rfl (lv_at hl 2 rfl) ?_
      obtain ⟨v6, qv6, h⟩ := ob h
      refine fm_iald kyf_327 F hW qv6 dX12_findWord_36 ?_
      refine lv_bipush (v := (8 : Int32)) hx hb dX12_findWord_37 (by decide) ?_
      obtain ⟨v7, qv7, h⟩ := ob h
      obtain ⟨zv7, qv7⟩ := rm_some qv7
      refine lv_irem hx hb dX12_findWord_39 zv7 ?_
      rw [qv7]
      obtain ⟨r8, qr8, h⟩ := ob h
      refine k_X12_isInput F qr8 q_2014 ⟨Nat.le_of_ble_eq_true rfl, Nat.le_of_ble_eq_true rfl, Nat.le_of_ble_eq_true rfl, Nat.le_of_ble_eq_true rfl⟩ hW hS hl.1 (Nat.le_of_ble_eq_true rfl) dX12_findWord_40 (fun H locs hW hS => ?_)
      refine lv_if_eq (tgt := 48) hx hb dX12_findWord_43 (by decide) (fun cc => ?_) (fun cc => ?_)
      · replace h := (if_pos cc).symm.trans h
        refine lv_iinc (v := (x2 + (1 : Int32))) (lv' := [(2, .int (x2 + (1 : Int32))), (0, .ref (b + 306)), (1, .int x1)]) hx hb dX12_findWord_48 hl (k := 2) rfl rfl (by decide) rfl (fun ls hl => ?_)
        refine lv_goto (tgt := 13) hx hb dX12_findWord_51 (by decide) ?_
        exact hk13 _ _ _ _ _ _ h hW hS (lv_sub hl [1, 2, 0] rfl)
      · replace h := (if_neg cc).symm.trans h
        refine lv_iload_n hx hb dX12_findWord_46 rfl (lv_at hl 2 rfl) ?_
        refine lv_istore_n (lv' := [(1, .int x2), (0, .ref (b + 306)), (2, .int x2)]) hx hb dX12_findWord_47 rfl hl (by decide) rfl (fun ls hl => ?_)
        refine lv_iinc (v := (x2 + (1 : Int32))) (lv' := [(2, .int (x2 + (1 : Int32))), (1, .int x2), (0, .ref (b + 306))]) hx hb dX12_findWord_48 hl (k := 2) rfl rfl (by decide) rfl (fun ls hl => ?_)
        refine lv_goto (tgt := 13) hx hb dX12_findWord_51 (by decide) ?_
        exact hk13 _ _ _ _ _ _ h hW hS (lv_sub hl [2, 1, 0] rfl)
set_option maxHeartbeats 4000000 in
set_option maxRecDepth 100000 in
theorem wk_X12_findWord {n : Nat} {μ : Mm} {out : (Int32 × Mm)} (F : FX (fg G) b RX12 cX12_findWord 3 p s m args meth c) (hr : meth.sig.returnType = some .int) (h : sh_X12_findWord n  μ = some out) (hW : WH (fg G) b μ H) (hS : va_S (fb b) s.heap H locs) (hl : lv_has ls 3 [(0, .ref (b + 306))]) : W p l e ({ frames := 6, cells := 0, slots := 0, locals := 139 } : Room) s m args below meth c H locs 0 0 (MQ below (QW (fg G) b out.2 (some (.int out.1))) args s 0 0 (fb b)) (F0 m 0 ls []) := by
  have hx := F.1
  have hb := F.2.1
  unfold sh_X12_findWord at h
  refine lv_aload_n hx hb dX12_findWord_0 rfl (lv_at hl 0 rfl) ?_
  refine lv_iconst (v := (0 : Int32)) hx hb dX12_findWord_1 (by decide) ?_
  obtain ⟨μ1, hmμ1, h⟩ := ob h
  refine fl_put12_0 kyf_306 F hW hS q_1471 hmμ1 dX12_findWord_2 (fun H locs hW hS => ?_)
  refine lv_aload_n hx hb dX12_findWord_5 rfl (lv_at hl 0 rfl) ?_
  obtain ⟨r2, qr2, h⟩ := ob h
  refine k_X12_layWords F qr2 q_1990 ⟨Nat.le_of_ble_eq_true rfl, Nat.le_of_ble_eq_true rfl, Nat.le_of_ble_eq_true rfl, Nat.le_of_ble_eq_true rfl⟩ hW hS hl.1 (Nat.le_of_ble_eq_true rfl) dX12_findWord_6 (fun H locs hW hS => ?_)
  refine lv_iconst (v := (-1 : Int32)) hx hb dX12_findWord_9 (by decide) ?_
  refine lv_istore_n (lv' := [(1, .int (-1 : Int32)), (0, .ref (b + 306))]) hx hb dX12_findWord_10 rfl hl (by decide) rfl (fun ls hl => ?_)
  refine lv_iconst (v := (0 : Int32)) hx hb dX12_findWord_11 (by decide) ?_
  refine lv_istore_n (lv' := [(2, .int (0 : Int32)), (1, .int (-1 : Int32)), (0, .ref (b + 306))]) hx hb dX12_findWord_12 rfl hl (by decide) rfl (fun ls hl => ?_)
  exact wk_X12_findWord_13 F hr n _ _ _ _ _ _ h hW hS (lv_sub hl [2, 1, 0] rfl)
set_option maxHeartbeats 4000000 in
set_option maxRecDepth 100000 in
theorem c_X12_findWord {l : Launch} {G : Gt} {b : Nat} {n : Nat} {μ : Mm} {out : (Int32 × Mm)} (h : sh_X12_findWord n  μ = some out) : Met l yX12_findWord (wU (Cond.code yX12_findWord cX12_findWord 3 (some .int))) ({ frames := 6, cells := 0, slots := 0, locals := 139 } : Room) (PcW (fg G) b μ [.ref (b + 306)]) (QW (fg G) b out.2 (some (.int out.1))) 0 0 (fb b) :=
  met_of [.ref (b + 306)] (by decide) (Nat.le_of_ble_eq_true rfl) (fun F hr hW hl => wk_X12_findWord F hr h hW va_S.rf hl)
set_option maxHeartbeats 4000000 in
set_option maxRecDepth 100000 in
theorem k_X12_findWord {own : String} {nL : Nat} (F : FX (fg G) b own cc nL p s m args meth c) {n : Nat} {μ : Mm} {out : (Int32 × Mm)} (h : sh_X12_findWord n  μ = some out) {index : Nat} (hl : Cond.methodLink own index yX12_findWord ∈ TBG) (hR : 6 + 1 ≤ R.frames ∧ 8 + (3 + 11) + 139 ≤ R.locals ∧ cells ≤ R.cells ∧ slots ≤ R.slots) (hW : WH (fg G) b μ H) (hS : va_S (fb b) s.heap H locs) (hsz : ls.size = nL) (hrest : (rest.map fun v => v.category).sum ≤ 8) (hdg : decode cc pc = .ok (.invokevirtual index, 3))
    (kk : ∀ (H1 : Heap) (locs1 : List Loc), WH (fg G) b out.2 H1 → va_S (fb b) s.heap H1 locs1 → W p l e R s m args below meth c H1 locs1 cells slots Q (F0 m (pc + 3) ls (.int out.1 :: rest))) : W p l e R s m args below meth c H locs cells slots Q (F0 m pc ls (.ref (b + 306) :: rest)) :=
  f_callV (As := []) (ci := 12) (c_X12_findWord h) ⟨rfl, rfl⟩ rfl (ky_lm kyf_306 (by decide)) (wF_12 kyf_306) q_2011 q_2012 q_14 q_2013 rfl ⟨by decide +kernel, by decide +kernel, (show (parseMethodDescriptor yX12_findWord.desc).map (fun d => d.parameters.length) = some 0 by decide +kernel)⟩ F hl hR hW hS hsz hrest rfl hdg kk
set_option maxHeartbeats 4000000 in
set_option maxRecDepth 100000 in
theorem wk_X12_setLength {n : Nat} {a1 : Int32} {a2 : Int32} {μ : Mm} {out : (Int32 × Mm)} (F : FX (fg G) b RX12 cX12_setLength 4 p s m args meth c) (hr : meth.sig.returnType = some .int) (h : sh_X12_setLength n a1 a2 μ = some out) (hW : WH (fg G) b μ H) (hS : va_S (fb b) s.heap H locs) (hl : lv_has ls 4 [(0, .ref (b + 306)), (1, .int a1), (2, .int a2)]) : W p l e ({ frames := 2, cells := 0, slots := 0, locals := 46 } : Room) s m args below meth c H locs 0 0 (MQ below (QW (fg G) b out.2 (some (.int out.1))) args s 0 0 (fb b)) (F0 m 0 ls []) := by
  have hx := F.1
  have hb := F.2.1
  unfold sh_X12_setLength at h
  refine lv_aload_n hx hb dX12_setLength_0 rfl (lv_at hl 0 rfl) ?_
  refine lv_aload_n hx hb dX12_setLength_1 rfl (lv_at hl 0 rfl) ?_
  refine lv_iload_n hx hb dX12_setLength_2 rfl (lv_at hl 1 rfl) ?_
  obtain ⟨r1, qr1, h⟩ := ob h
  refine k_X12_isSection F qr1 q_1868 ⟨Nat.le_of_ble_eq_true rfl, Nat.le_of_ble_eq_true rfl, Nat.le_of_ble_eq_true rfl, Nat.le_of_ble_eq_true rfl⟩ hW hS hl.1 (Nat.le_of_ble_eq_true rfl) dX12_setLength_3 (fun H locs hW hS => ?_)
  refine lv_iload_n hx hb dX12_setLength_6 rfl (lv_at hl 2 rfl) ?_
  refine lv_i2l hx hb dX12_setLength_7 rfl ?_
  refine lv_lconst (v := (0 : Int64)) hx hb dX12_setLength_8 (by decide) ?_
  refine lv_ldc2 hx hb F.2.2.2.1 (F.2.2.2.2.1 _ q_2022) dX12_setLength_9 ?_
  obtain ⟨r2, qr2, h⟩ := ob h
  refine k_X12_in F qr2 q_1643 ⟨Nat.le_of_ble_eq_true rfl, Nat.le_of_ble_eq_true rfl, Nat.le_of_ble_eq_true rfl, Nat.le_of_ble_eq_true rfl⟩ hW hS hl.1 (Nat.le_of_ble_eq_true rfl) dX12_setLength_12 (fun H locs hW hS => ?_)
  obtain ⟨r3, qr3, h⟩ := ob h
  refine k_X12_passes2 F qr3 q_1873 ⟨Nat.le_of_ble_eq_true rfl, Nat.le_of_ble_eq_true rfl, Nat.le_of_ble_eq_true rfl, Nat.le_of_ble_eq_true rfl⟩ hW hS hl.1 (Nat.le_of_ble_eq_true rfl) dX12_setLength_15 (fun H locs hW hS => ?_)
  refine lv_if_ne (tgt := 23) hx hb dX12_setLength_18 (by decide) (fun cc => ?_) (fun cc => ?_)
  · replace h := (if_neg cc).symm.trans h
    refine lv_aload_n hx hb dX12_setLength_23 rfl (lv_at hl 0 rfl) ?_
    obtain ⟨r4, qr4, h⟩ := ob h
    refine k_X12_remember F qr4 q_1747 ⟨Nat.le_of_ble_eq_true rfl, Nat.le_of_ble_eq_true rfl, Nat.le_of_ble_eq_true rfl, Nat.le_of_ble_eq_true rfl⟩ hW hS hl.1 (Nat.le_of_ble_eq_true rfl) dX12_setLength_24 (fun H locs hW hS => ?_)
    refine lv_aload_n hx hb dX12_setLength_27 rfl (lv_at hl 0 rfl) ?_
    refine lv_iload_n hx hb dX12_setLength_28 rfl (lv_at hl 1 rfl) ?_
    refine lv_iconst (v := (1 : Int32)) hx hb dX12_setLength_29 (by decide) ?_
    obtain ⟨r5, qr5, h⟩ := ob h
    refine k_X12_of F qr5 q_1735 ⟨Nat.le_of_ble_eq_true rfl, Nat.le_of_ble_eq_true rfl, Nat.le_of_ble_eq_true rfl, Nat.le_of_ble_eq_true rfl⟩ hW hS hl.1 (Nat.le_of_ble_eq_true rfl) dX12_setLength_30 (fun H locs hW hS => ?_)
    refine lv_istore_n (lv' := [(3, .int r5), (0, .ref (b + 306)), (1, .int a1), (2, .int a2)]) hx hb dX12_setLength_33 rfl hl (by decide) rfl (fun ls hl => ?_)
    refine lv_aload_n hx hb dX12_setLength_34 rfl (lv_at hl 1 rfl) ?_
    refine lv_iload_n hx hb dX12_setLength_35 rfl (lv_at hl 2 rfl) ?_
    refine lv_iconst (v := (1 : Int32)) hx hb dX12_setLength_36 (by decide) ?_
    refine lv_iload_n hx hb dX12_setLength_37 rfl (lv_at hl 3 rfl) ?_
    obtain ⟨r6, qr6, h⟩ := ob h
    refine k_X12_set F qr6 q_1727 ⟨Nat.le_of_ble_eq_true rfl, Nat.le_of_ble_eq_true rfl, Nat.le_of_ble_eq_true rfl, Nat.le_of_ble_eq_true rfl⟩ hW hS hl.1 (Nat.le_of_ble_eq_true rfl) dX12_setLength_38 (fun H locs hW hS => ?_)
    refine lv_iload_n hx hb dX12_setLength_41 rfl (lv_at hl 0 rfl) ?_
    cases h
    exact r_int F hr hW hS dX12_setLength_42
  · replace h := (if_pos cc).symm.trans h
    refine lv_iconst (v := (0 : Int32)) hx hb dX12_setLength_21 (by decide) ?_
    cases h
    exact r_int F hr hW hS dX12_setLength_22
set_option maxHeartbeats 4000000 in
set_option maxRecDepth 100000 in
theorem c_X12_setLength {l : Launch} {G : Gt} {b : Nat} {n : Nat} {a1 : Int32} {a2 : Int32} {μ : Mm} {out : (Int32 × Mm)} (h : sh_X12_setLength n a1 a2 μ = some out) : Met l yX12_setLength (wU (Cond.code yX12_setLength cX12_setLength 4 (some .int))) ({ frames := 2, cells := 0, slots := 0, locals := 46 } : Room) (PcW (fg G) b μ [.ref (b + 306), .int a1, .int a2]) (QW (fg G) b out.2 (some (.int out.1))) 0 0 (fb b) :=
  met_of [.ref (b + 306), .int a1, .int a2] (by decide) (Nat.le_of_ble_eq_true rfl) (fun F hr hW hl => wk_X12_setLength F hr h hW va_S.rf hl)
set_option maxHeartbeats 4000000 in
set_option maxRecDepth 100000 in
theorem k_X12_setLength {own : String} {nL : Nat} (F : FX (fg G) b own cc nL p s m args meth c) {n : Nat} {a1 : Int32} {a2 : Int32} {μ : Mm} {out : (Int32 × Mm)} (h : sh_X12_setLength n a1 a2 μ = some out) {index : Nat} (hl : Cond.methodLink own index yX12_setLength ∈ TBG) (hR : 2 + 1 ≤ R.frames ∧ 8 + (4 + 11) + 46 ≤ R.locals ∧ cells ≤ R.cells ∧ slots ≤ R.slots) (hW : WH (fg G) b μ H) (hS : va_S (fb b) s.heap H locs) (hsz : ls.size = nL) (hrest : (rest.map fun v => v.category).sum ≤ 8) (hdg : decode cc pc = .ok (.invokevirtual index, 3))
    (kk : ∀ (H1 : Heap) (locs1 : List Loc), WH (fg G) b out.2 H1 → va_S (fb b) s.heap H1 locs1 → W p l e R s m args below meth c H1 locs1 cells slots Q (F0 m (pc + 3) ls (.int out.1 :: rest))) : W p l e R s m args below meth c H locs cells slots Q (F0 m pc ls (.int a2 :: .int a1 :: .ref (b + 306) :: rest)) :=
  f_callV (As := [.int a1, .int a2]) (ci := 12) (c_X12_setLength h) ⟨rfl, rfl⟩ rfl (ky_lm kyf_306 (by decide)) (wF_12 kyf_306) q_2019 q_2020 q_14 q_2021 rfl ⟨by decide +kernel, by decide +kernel, (show (parseMethodDescriptor yX12_setLength.desc).map (fun d => d.parameters.length) = some 2 by decide +kernel)⟩ F hl hR hW hS hsz hrest rfl hdg kk
set_option maxHeartbeats 4000000 in
set_option maxRecDepth 100000 in
theorem wk_X12_areLevels_4 {n : Nat} {μ : Mm} {out : Int32} (F : FX (fg G) b RX12 cX12_areLevels 3 p s m args meth c) (hr : meth.sig.returnType = some .boolean) : ∀ (f : Nat) (x1 : Int32) (x2 : Int32) (H : Heap) (locs : List Loc) (ls : Array Slot), sh_X12_areLevels_4 n μ f x1 x2 = some out → WH (fg G) b μ H → va_S (fb b) s.heap H locs → lv_has ls 3 [(0, .ref (b + 306)), (1, .int x1), (2, .int x2)] → W p l e ({ frames := 2, cells := 0, slots := 0, locals := 44 } : Room) s m args below meth c H locs 0 0 (MQ below (QW (fg G) b μ (some (.int out))) args s 0 0 (fb b)) (F0 m 4 ls []) := by
  have hx := F.1
  have hb := F.2.1
  intro f
  induction f with
  | zero =>
    intro _ _ _ _ _ h
    rw [sh_X12_areLevels_4] at h
    cases h
  | succ f ih =>
    intro x1 x2  H locs ls h hW hS hl
    rw [sh_X12_areLevels_4] at h
    have hk4 := ih
    refine lv_iload_n hx hb dX12_areLevels_4 rfl (lv_at hl 2 rfl) ?_
    refine lv_aload_n hx hb dX12_areLevels_5 rfl (lv_at hl 0 rfl) ?_
    refine fl_get12 (v := .ref (b + 307)) kyf_306 F hW 1 (by decide) q_1472 rfl rfl dX12_areLevels_6 ?_
    refine lv_bipush (v := (9 : Int32)) hx hb dX12_areLevels_9 (by decide) ?_
    obtain ⟨v1, qv1, h⟩ := ob h
    refine fm_iald kyf_307 F hW qv1 dX12_areLevels_11 ?_
    refine lv_icmp_ge (tgt := 53) hx hb dX12_areLevels_12 (by decide) (fun cc => ?_) (fun cc => ?_)
    · replace h := (if_pos cc).symm.trans h
      refine lv_iload_n hx hb dX12_areLevels_53 rfl (lv_at hl 1 rfl) ?_
      obtain ⟨v2, qv2, h⟩ := ob h
      obtain ⟨zv2, qv2⟩ := isB_some qv2
      rw [qv2] at zv2
      rw [qv2]
      cases h
      exact r_bool F hr zv2 hW hS dX12_areLevels_54
    · replace h := (if_neg cc).symm.trans h
      refine lv_iload_n hx hb dX12_areLevels_15 rfl (lv_at hl 1 rfl) ?_
      refine lv_if_eq (tgt := 45) hx hb dX12_areLevels_16 (by decide) (fun cc => ?_) (fun cc => ?_)
      · replace h := (if_pos cc).symm.trans h
        refine lv_iconst (v := (0 : Int32)) hx hb dX12_areLevels_45 (by decide) ?_
        refine lv_istore_n (lv' := [(1, .int (0 : Int32)), (0, .ref (b + 306)), (2, .int x2)]) hx hb dX12_areLevels_46 rfl hl (by decide) rfl (fun ls hl => ?_)
        refine lv_iinc (v := (x2 + (1 : Int32))) (lv' := [(2, .int (x2 + (1 : Int32))), (1, .int (0 : Int32)), (0, .ref (b + 306))]) hx hb dX12_areLevels_47 hl (k := 2) rfl rfl (by decide) rfl (fun ls hl => ?_)
        refine lv_goto (tgt := 4) hx hb dX12_areLevels_50 (by decide) ?_
        exact hk4 _ _ _ _ _ h hW hS (lv_sub hl [2, 1, 0] rfl)
      · replace h := (if_neg cc).symm.trans h
        refine lv_aload_n hx hb dX12_areLevels_19 rfl (lv_at hl 0 rfl) ?_
        refine lv_iload_n hx hb dX12_areLevels_20 rfl (lv_at hl 2 rfl) ?_
        refine lv_iconst (v := (0 : Int32)) hx hb dX12_areLevels_21 (by decide) ?_
        obtain ⟨r3, qr3, h⟩ := ob h
        refine k_X12_of F qr3 q_1735 ⟨Nat.le_of_ble_eq_true rfl, Nat.le_of_ble_eq_true rfl, Nat.le_of_ble_eq_true rfl, Nat.le_of_ble_eq_true rfl⟩ hW hS hl.1 (Nat.le_of_ble_eq_true rfl) dX12_areLevels_22 (fun H locs hW hS => ?_)
        refine lv_aload_n hx hb dX12_areLevels_25 rfl (lv_at hl 0 rfl) ?_
        refine lv_iload_n hx hb dX12_areLevels_26 rfl (lv_at hl 2 rfl) ?_
        refine lv_iconst (v := (1 : Int32)) hx hb dX12_areLevels_27 (by decide) ?_
        refine lv_isub hx hb dX12_areLevels_28 ?_
        refine lv_aload_n hx hb dX12_areLevels_29 rfl (lv_at hl 0 rfl) ?_
        refine lv_iload_n hx hb dX12_areLevels_30 rfl (lv_at hl 2 rfl) ?_
        refine lv_iconst (v := (2 : Int32)) hx hb dX12_areLevels_31 (by decide) ?_
        obtain ⟨r4, qr4, h⟩ := ob h
        refine k_X12_of F qr4 q_1735 ⟨Nat.le_of_ble_eq_true rfl, Nat.le_of_ble_eq_true rfl, Nat.le_of_ble_eq_true rfl, Nat.le_of_ble_eq_true rfl⟩ hW hS hl.1 (Nat.le_of_ble_eq_true rfl) dX12_areLevels_32 (fun H locs hW hS => ?_)
        obtain ⟨r5, qr5, h⟩ := ob h
        refine k_X12_levelBehind F qr5 q_1731 ⟨Nat.le_of_ble_eq_true rfl, Nat.le_of_ble_eq_true rfl, Nat.le_of_ble_eq_true rfl, Nat.le_of_ble_eq_true rfl⟩ hW hS hl.1 (Nat.le_of_ble_eq_true rfl) dX12_areLevels_35 (fun H locs hW hS => ?_)
        refine lv_icmp_gt (tgt := 45) hx hb dX12_areLevels_38 (by decide) (fun cc => ?_) (fun cc => ?_)
        · replace h := (if_pos cc).symm.trans h
          refine lv_iconst (v := (0 : Int32)) hx hb dX12_areLevels_45 (by decide) ?_
          refine lv_istore_n (lv' := [(1, .int (0 : Int32)), (0, .ref (b + 306)), (2, .int x2)]) hx hb dX12_areLevels_46 rfl hl (by decide) rfl (fun ls hl => ?_)
          refine lv_iinc (v := (x2 + (1 : Int32))) (lv' := [(2, .int (x2 + (1 : Int32))), (1, .int (0 : Int32)), (0, .ref (b + 306))]) hx hb dX12_areLevels_47 hl (k := 2) rfl rfl (by decide) rfl (fun ls hl => ?_)
          refine lv_goto (tgt := 4) hx hb dX12_areLevels_50 (by decide) ?_
          exact hk4 _ _ _ _ _ h hW hS (lv_sub hl [2, 1, 0] rfl)
        · replace h := (if_neg cc).symm.trans h
          refine lv_iconst (v := (1 : Int32)) hx hb dX12_areLevels_41 (by decide) ?_
          refine lv_goto (tgt := 46) hx hb dX12_areLevels_42 (by decide) ?_
          refine lv_istore_n (lv' := [(1, .int (1 : Int32)), (0, .ref (b + 306)), (2, .int x2)]) hx hb dX12_areLevels_46 rfl hl (by decide) rfl (fun ls hl => ?_)
          refine lv_iinc (v := (x2 + (1 : Int32))) (lv' := [(2, .int (x2 + (1 : Int32))), (1, .int (1 : Int32)), (0, .ref (b + 306))]) hx hb dX12_areLevels_47 hl (k := 2) rfl rfl (by decide) rfl (fun ls hl => ?_)
          refine lv_goto (tgt := 4) hx hb dX12_areLevels_50 (by decide) ?_
          exact hk4 _ _ _ _ _ h hW hS (lv_sub hl [2, 1, 0] rfl)
set_option maxHeartbeats 4000000 in
set_option maxRecDepth 100000 in
theorem wk_X12_areLevels {n : Nat} {μ : Mm} {out : Int32} (F : FX (fg G) b RX12 cX12_areLevels 3 p s m args meth c) (hr : meth.sig.returnType = some .boolean) (h : sh_X12_areLevels n  μ = some out) (hW : WH (fg G) b μ H) (hS : va_S (fb b) s.heap H locs) (hl : lv_has ls 3 [(0, .ref (b + 306))]) : W p l e ({ frames := 2, cells := 0, slots := 0, locals := 44 } : Room) s m args below meth c H locs 0 0 (MQ below (QW (fg G) b μ (some (.int out))) args s 0 0 (fb b)) (F0 m 0 ls []) := by
  have hx := F.1
  have hb := F.2.1
  unfold sh_X12_areLevels at h
  refine lv_iconst (v := (1 : Int32)) hx hb dX12_areLevels_0 (by decide) ?_
  refine lv_istore_n (lv' := [(1, .int (1 : Int32)), (0, .ref (b + 306))]) hx hb dX12_areLevels_1 rfl hl (by decide) rfl (fun ls hl => ?_)
  refine lv_iconst (v := (0 : Int32)) hx hb dX12_areLevels_2 (by decide) ?_
  refine lv_istore_n (lv' := [(2, .int (0 : Int32)), (1, .int (1 : Int32)), (0, .ref (b + 306))]) hx hb dX12_areLevels_3 rfl hl (by decide) rfl (fun ls hl => ?_)
  exact wk_X12_areLevels_4 F hr n _ _ _ _ _ h hW hS (lv_sub hl [2, 1, 0] rfl)
set_option maxHeartbeats 4000000 in
set_option maxRecDepth 100000 in
theorem c_X12_areLevels {l : Launch} {G : Gt} {b : Nat} {n : Nat} {μ : Mm} {out : Int32} (h : sh_X12_areLevels n  μ = some out) : Met l yX12_areLevels (wU (Cond.code yX12_areLevels cX12_areLevels 3 (some .boolean))) ({ frames := 2, cells := 0, slots := 0, locals := 44 } : Room) (PcW (fg G) b μ [.ref (b + 306)]) (QW (fg G) b μ (some (.int out))) 0 0 (fb b) :=
  met_of [.ref (b + 306)] (by decide) (Nat.le_of_ble_eq_true rfl) (fun F hr hW hl => wk_X12_areLevels F hr h hW va_S.rf hl)
set_option maxHeartbeats 4000000 in
set_option maxRecDepth 100000 in
theorem k_X12_areLevels {own : String} {nL : Nat} (F : FX (fg G) b own cc nL p s m args meth c) {n : Nat} {μ : Mm} {out : Int32} (h : sh_X12_areLevels n  μ = some out) {index : Nat} (hl : Cond.methodLink own index yX12_areLevels ∈ TBG) (hR : 2 + 1 ≤ R.frames ∧ 8 + (3 + 11) + 44 ≤ R.locals ∧ cells ≤ R.cells ∧ slots ≤ R.slots) (hW : WH (fg G) b μ H) (hS : va_S (fb b) s.heap H locs) (hsz : ls.size = nL) (hrest : (rest.map fun v => v.category).sum ≤ 8) (hdg : decode cc pc = .ok (.invokevirtual index, 3))
    (kk : ∀ (H1 : Heap) (locs1 : List Loc), WH (fg G) b μ H1 → va_S (fb b) s.heap H1 locs1 → W p l e R s m args below meth c H1 locs1 cells slots Q (F0 m (pc + 3) ls (.int out :: rest))) : W p l e R s m args below meth c H locs cells slots Q (F0 m pc ls (.ref (b + 306) :: rest)) :=
  f_callV (As := []) (ci := 12) (c_X12_areLevels h) ⟨rfl, rfl⟩ rfl (ky_lm kyf_306 (by decide)) (wF_12 kyf_306) q_2029 qp_103 q_14 q_2030 rfl ⟨by decide +kernel, by decide +kernel, (show (parseMethodDescriptor yX12_areLevels.desc).map (fun d => d.parameters.length) = some 0 by decide +kernel)⟩ F hl hR hW hS hsz hrest rfl hdg kk
set_option maxHeartbeats 4000000 in
set_option maxRecDepth 100000 in
theorem wk_X12_setLevel_70 {n : Nat} {a1 : Int32} {a2 : Int32} {x3 : Int32} {x4 : Int32} {μ : Mm} {out : (Int32 × Mm)} (F : FX (fg G) b RX12 cX12_setLevel 5 p s m args meth c) (hr : meth.sig.returnType = some .int) (h : sh_X12_setLevel_70 n a1 a2 x3 x4 μ = some out) (hW : WH (fg G) b μ H) (hS : va_S (fb b) s.heap H locs) (hl : lv_has ls 5 [(0, .ref (b + 306)), (1, .int a1), (2, .int a2), (3, .int x3), (4, .int x4)]) : W p l e ({ frames := 3, cells := 0, slots := 0, locals := 66 } : Room) s m args below meth c H locs 0 0 (MQ below (QW (fg G) b out.2 (some (.int out.1))) args s 0 0 (fb b)) (F0 m 70 ls []) := by
  have hx := F.1
  have hb := F.2.1
  unfold sh_X12_setLevel_70 at h
  refine lv_aload_n hx hb dX12_setLevel_70 rfl (lv_at hl 0 rfl) ?_
  refine lv_aload_n hx hb dX12_setLevel_71 rfl (lv_at hl 0 rfl) ?_
  refine lv_iload_n hx hb dX12_setLevel_72 rfl (lv_at hl 1 rfl) ?_
  obtain ⟨r3, qr3, h⟩ := ob h
  refine k_X12_isSection F qr3 q_1868 ⟨Nat.le_of_ble_eq_true rfl, Nat.le_of_ble_eq_true rfl, Nat.le_of_ble_eq_true rfl, Nat.le_of_ble_eq_true rfl⟩ hW hS hl.1 (Nat.le_of_ble_eq_true rfl) dX12_setLevel_73 (fun H locs hW hS => ?_)
  refine lv_iload_n hx hb dX12_setLevel_76 rfl (lv_at hl 3 rfl) ?_
  obtain ⟨r4, qr4, h⟩ := ob h
  refine k_X12_passes2 F qr4 q_1873 ⟨Nat.le_of_ble_eq_true rfl, Nat.le_of_ble_eq_true rfl, Nat.le_of_ble_eq_true rfl, Nat.le_of_ble_eq_true rfl⟩ hW hS hl.1 (Nat.le_of_ble_eq_true rfl) dX12_setLevel_77 (fun H locs hW hS => ?_)
  refine lv_if_ne (tgt := 85) hx hb dX12_setLevel_80 (by decide) (fun cc => ?_) (fun cc => ?_)
  · replace h := (if_neg cc).symm.trans h
    refine lv_aload_n hx hb dX12_setLevel_85 rfl (lv_at hl 0 rfl) ?_
    obtain ⟨r5, qr5, h⟩ := ob h
    refine k_X12_remember F qr5 q_1747 ⟨Nat.le_of_ble_eq_true rfl, Nat.le_of_ble_eq_true rfl, Nat.le_of_ble_eq_true rfl, Nat.le_of_ble_eq_true rfl⟩ hW hS hl.1 (Nat.le_of_ble_eq_true rfl) dX12_setLevel_86 (fun H locs hW hS => ?_)
    refine lv_aload_n hx hb dX12_setLevel_89 rfl (lv_at hl 0 rfl) ?_
    refine lv_iload_n hx hb dX12_setLevel_90 rfl (lv_at hl 1 rfl) ?_
    refine lv_iconst (v := (0 : Int32)) hx hb dX12_setLevel_91 (by decide) ?_
    refine lv_iload_n hx hb dX12_setLevel_92 rfl (lv_at hl 2 rfl) ?_
    obtain ⟨r6, qr6, h⟩ := ob h
    refine k_X12_set F qr6 q_1727 ⟨Nat.le_of_ble_eq_true rfl, Nat.le_of_ble_eq_true rfl, Nat.le_of_ble_eq_true rfl, Nat.le_of_ble_eq_true rfl⟩ hW hS hl.1 (Nat.le_of_ble_eq_true rfl) dX12_setLevel_93 (fun H locs hW hS => ?_)
    refine lv_iload hx hb dX12_setLevel_96 (lv_at hl 4 rfl) ?_
    cases h
    exact r_int F hr hW hS dX12_setLevel_98
  · replace h := (if_pos cc).symm.trans h
    refine lv_iconst (v := (0 : Int32)) hx hb dX12_setLevel_83 (by decide) ?_
    cases h
    exact r_int F hr hW hS dX12_setLevel_84
set_option maxHeartbeats 4000000 in
set_option maxRecDepth 100000 in
theorem wk_X12_setLevel_44 {n : Nat} {a1 : Int32} {a2 : Int32} {x3 : Int32} {s0 : Int32} {μ : Mm} {out : (Int32 × Mm)} (F : FX (fg G) b RX12 cX12_setLevel 5 p s m args meth c) (hr : meth.sig.returnType = some .int) (h : sh_X12_setLevel_44 n a1 a2 x3 s0 μ = some out) (hW : WH (fg G) b μ H) (hS : va_S (fb b) s.heap H locs) (hl : lv_has ls 5 [(0, .ref (b + 306)), (1, .int a1), (2, .int a2), (3, .int x3)]) : W p l e ({ frames := 3, cells := 0, slots := 0, locals := 66 } : Room) s m args below meth c H locs 0 0 (MQ below (QW (fg G) b out.2 (some (.int out.1))) args s 0 0 (fb b)) (F0 m 44 ls [.int s0]) := by
  have hx := F.1
  have hb := F.2.1
  unfold sh_X12_setLevel_44 at h
  refine lv_istore (lv' := [(4, .int s0), (0, .ref (b + 306)), (1, .int a1), (2, .int a2), (3, .int x3)]) hx hb dX12_setLevel_44 hl (by decide) rfl (fun ls hl => ?_)
  refine lv_iload_n hx hb dX12_setLevel_46 rfl (lv_at hl 4 rfl) ?_
  refine lv_if_eq (tgt := 70) hx hb dX12_setLevel_47 (by decide) (fun cc => ?_) (fun cc => ?_)
  · replace h := (if_pos cc).symm.trans h
    exact wk_X12_setLevel_70 F hr h hW hS (lv_sub hl [1, 2, 3, 4, 0] rfl)
  · replace h := (if_neg cc).symm.trans h
    refine lv_aload_n hx hb dX12_setLevel_50 rfl (lv_at hl 1 rfl) ?_
    refine lv_iload_n hx hb dX12_setLevel_51 rfl (lv_at hl 2 rfl) ?_
    refine lv_iconst (v := (0 : Int32)) hx hb dX12_setLevel_52 (by decide) ?_
    refine lv_iload_n hx hb dX12_setLevel_53 rfl (lv_at hl 3 rfl) ?_
    obtain ⟨r7, qr7, h⟩ := ob h
    refine k_X12_set F qr7 q_1727 ⟨Nat.le_of_ble_eq_true rfl, Nat.le_of_ble_eq_true rfl, Nat.le_of_ble_eq_true rfl, Nat.le_of_ble_eq_true rfl⟩ hW hS hl.1 (Nat.le_of_ble_eq_true rfl) dX12_setLevel_54 (fun H locs hW hS => ?_)
    refine lv_aload_n hx hb dX12_setLevel_57 rfl (lv_at hl 1 rfl) ?_
    obtain ⟨r8, qr8, h⟩ := ob h
    refine k_X12_areLevels F qr8 q_2027 ⟨Nat.le_of_ble_eq_true rfl, Nat.le_of_ble_eq_true rfl, Nat.le_of_ble_eq_true rfl, Nat.le_of_ble_eq_true rfl⟩ hW hS hl.1 (Nat.le_of_ble_eq_true rfl) dX12_setLevel_58 (fun H locs hW hS => ?_)
    refine lv_istore_n (lv' := [(3, .int r8), (4, .int s0), (0, .ref (b + 306)), (1, .int a1), (2, .int a2)]) hx hb dX12_setLevel_61 rfl hl (by decide) rfl (fun ls hl => ?_)
    refine lv_aload_n hx hb dX12_setLevel_62 rfl (lv_at hl 2 rfl) ?_
    refine lv_iload_n hx hb dX12_setLevel_63 rfl (lv_at hl 3 rfl) ?_
    refine lv_iconst (v := (0 : Int32)) hx hb dX12_setLevel_64 (by decide) ?_
    refine lv_iload hx hb dX12_setLevel_65 (lv_at hl 1 rfl) ?_
    obtain ⟨r9, qr9, h⟩ := ob h
    refine k_X12_set F qr9 q_1727 ⟨Nat.le_of_ble_eq_true rfl, Nat.le_of_ble_eq_true rfl, Nat.le_of_ble_eq_true rfl, Nat.le_of_ble_eq_true rfl⟩ hW hS hl.1 (Nat.le_of_ble_eq_true rfl) dX12_setLevel_67 (fun H locs hW hS => ?_)
    exact wk_X12_setLevel_70 F hr h hW hS (lv_sub hl [2, 3, 4, 0, 1] rfl)
set_option maxHeartbeats 4000000 in
set_option maxRecDepth 100000 in
theorem wk_X12_setLevel_25 {n : Nat} {a1 : Int32} {a2 : Int32} {s0 : Int32} {μ : Mm} {out : (Int32 × Mm)} (F : FX (fg G) b RX12 cX12_setLevel 5 p s m args meth c) (hr : meth.sig.returnType = some .int) (h : sh_X12_setLevel_25 n a1 a2 s0 μ = some out) (hW : WH (fg G) b μ H) (hS : va_S (fb b) s.heap H locs) (hl : lv_has ls 5 [(0, .ref (b + 306)), (1, .int a1), (2, .int a2)]) : W p l e ({ frames := 3, cells := 0, slots := 0, locals := 66 } : Room) s m args below meth c H locs 0 0 (MQ below (QW (fg G) b out.2 (some (.int out.1))) args s 0 0 (fb b)) (F0 m 25 ls [.int s0]) := by
  have hx := F.1
  have hb := F.2.1
  unfold sh_X12_setLevel_25 at h
  refine lv_istore_n (lv' := [(3, .int s0), (0, .ref (b + 306)), (1, .int a1), (2, .int a2)]) hx hb dX12_setLevel_25 rfl hl (by decide) rfl (fun ls hl => ?_)
  refine lv_aload_n hx hb dX12_setLevel_26 rfl (lv_at hl 1 rfl) ?_
  refine lv_iload_n hx hb dX12_setLevel_27 rfl (lv_at hl 2 rfl) ?_
  obtain ⟨r2, qr2, h⟩ := ob h
  refine k_X12_isSection F qr2 q_1868 ⟨Nat.le_of_ble_eq_true rfl, Nat.le_of_ble_eq_true rfl, Nat.le_of_ble_eq_true rfl, Nat.le_of_ble_eq_true rfl⟩ hW hS hl.1 (Nat.le_of_ble_eq_true rfl) dX12_setLevel_28 (fun H locs hW hS => ?_)
  refine lv_if_eq (tgt := 43) hx hb dX12_setLevel_31 (by decide) (fun cc => ?_) (fun cc => ?_)
  · replace h := (if_pos cc).symm.trans h
    refine lv_iconst (v := (0 : Int32)) hx hb dX12_setLevel_43 (by decide) ?_
    exact wk_X12_setLevel_44 F hr h hW hS (lv_sub hl [1, 2, 3, 0] rfl)
  · replace h := (if_neg cc).symm.trans h
    refine lv_aload_n hx hb dX12_setLevel_34 rfl (lv_at hl 1 rfl) ?_
    refine lv_iload_n hx hb dX12_setLevel_35 rfl (lv_at hl 2 rfl) ?_
    refine lv_iconst (v := (0 : Int32)) hx hb dX12_setLevel_36 (by decide) ?_
    obtain ⟨r10, qr10, h⟩ := ob h
    refine k_X12_of F qr10 q_1735 ⟨Nat.le_of_ble_eq_true rfl, Nat.le_of_ble_eq_true rfl, Nat.le_of_ble_eq_true rfl, Nat.le_of_ble_eq_true rfl⟩ hW hS hl.1 (Nat.le_of_ble_eq_true rfl) dX12_setLevel_37 (fun H locs hW hS => ?_)
    refine lv_goto (tgt := 44) hx hb dX12_setLevel_40 (by decide) ?_
    exact wk_X12_setLevel_44 F hr h hW hS (lv_sub hl [1, 2, 3, 0] rfl)
set_option maxHeartbeats 4000000 in
set_option maxRecDepth 100000 in
theorem wk_X12_setLevel_24 {n : Nat} {a1 : Int32} {a2 : Int32} {μ : Mm} {out : (Int32 × Mm)} (F : FX (fg G) b RX12 cX12_setLevel 5 p s m args meth c) (hr : meth.sig.returnType = some .int) (h : sh_X12_setLevel_24 n a1 a2 μ = some out) (hW : WH (fg G) b μ H) (hS : va_S (fb b) s.heap H locs) (hl : lv_has ls 5 [(0, .ref (b + 306)), (1, .int a1), (2, .int a2)]) : W p l e ({ frames := 3, cells := 0, slots := 0, locals := 66 } : Room) s m args below meth c H locs 0 0 (MQ below (QW (fg G) b out.2 (some (.int out.1))) args s 0 0 (fb b)) (F0 m 24 ls []) := by
  have hx := F.1
  have hb := F.2.1
  unfold sh_X12_setLevel_24 at h
  refine lv_iconst (v := (0 : Int32)) hx hb dX12_setLevel_24 (by decide) ?_
  exact wk_X12_setLevel_25 F hr h hW hS (lv_sub hl [0, 1, 2] rfl)
set_option maxHeartbeats 4000000 in
set_option maxRecDepth 100000 in
theorem wk_X12_setLevel {n : Nat} {a1 : Int32} {a2 : Int32} {μ : Mm} {out : (Int32 × Mm)} (F : FX (fg G) b RX12 cX12_setLevel 5 p s m args meth c) (hr : meth.sig.returnType = some .int) (h : sh_X12_setLevel n a1 a2 μ = some out) (hW : WH (fg G) b μ H) (hS : va_S (fb b) s.heap H locs) (hl : lv_has ls 5 [(0, .ref (b + 306)), (1, .int a1), (2, .int a2)]) : W p l e ({ frames := 3, cells := 0, slots := 0, locals := 66 } : Room) s m args below meth c H locs 0 0 (MQ below (QW (fg G) b out.2 (some (.int out.1))) args s 0 0 (fb b)) (F0 m 0 ls []) := by
  have hx := F.1
  have hb := F.2.1
  unfold sh_X12_setLevel at h
  refine lv_aload_n hx hb dX12_setLevel_0 rfl (lv_at hl 0 rfl) ?_
  refine lv_iload_n hx hb dX12_setLevel_1 rfl (lv_at hl 1 rfl) ?_
  obtain ⟨r1, qr1, h⟩ := ob h
  refine k_X12_isSection F qr1 q_1868 ⟨Nat.le_of_ble_eq_true rfl, Nat.le_of_ble_eq_true rfl, Nat.le_of_ble_eq_true rfl, Nat.le_of_ble_eq_true rfl⟩ hW hS hl.1 (Nat.le_of_ble_eq_true rfl) dX12_setLevel_2 (fun H locs hW hS => ?_)
  refine lv_if_eq (tgt := 24) hx hb dX12_setLevel_5 (by decide) (fun cc => ?_) (fun cc => ?_)
  · replace h := (if_pos cc).symm.trans h
    exact wk_X12_setLevel_24 F hr h hW hS (lv_sub hl [0, 1, 2] rfl)
  · replace h := (if_neg cc).symm.trans h
    refine lv_iload_n hx hb dX12_setLevel_8 rfl (lv_at hl 2 rfl) ?_
    refine lv_i2l hx hb dX12_setLevel_9 rfl ?_
    refine lv_lconst (v := (1 : Int64)) hx hb dX12_setLevel_10 (by decide) ?_
    refine lv_ldc2 hx hb F.2.2.2.1 (F.2.2.2.2.1 _ q_1941) dX12_setLevel_11 ?_
    obtain ⟨r11, qr11, h⟩ := ob h
    refine k_X12_in F qr11 q_1643 ⟨Nat.le_of_ble_eq_true rfl, Nat.le_of_ble_eq_true rfl, Nat.le_of_ble_eq_true rfl, Nat.le_of_ble_eq_true rfl⟩ hW hS hl.1 (Nat.le_of_ble_eq_true rfl) dX12_setLevel_14 (fun H locs hW hS => ?_)
    refine lv_if_eq (tgt := 24) hx hb dX12_setLevel_17 (by decide) (fun cc => ?_) (fun cc => ?_)
    · replace h := (if_pos cc).symm.trans h
      exact wk_X12_setLevel_24 F hr h hW hS (lv_sub hl [0, 1, 2] rfl)
    · replace h := (if_neg cc).symm.trans h
      refine lv_iconst (v := (1 : Int32)) hx hb dX12_setLevel_20 (by decide) ?_
      refine lv_goto (tgt := 25) hx hb dX12_setLevel_21 (by decide) ?_
      exact wk_X12_setLevel_25 F hr h hW hS (lv_sub hl [0, 1, 2] rfl)
set_option maxHeartbeats 4000000 in
set_option maxRecDepth 100000 in
theorem c_X12_setLevel {l : Launch} {G : Gt} {b : Nat} {n : Nat} {a1 : Int32} {a2 : Int32} {μ : Mm} {out : (Int32 × Mm)} (h : sh_X12_setLevel n a1 a2 μ = some out) : Met l yX12_setLevel (wU (Cond.code yX12_setLevel cX12_setLevel 5 (some .int))) ({ frames := 3, cells := 0, slots := 0, locals := 66 } : Room) (PcW (fg G) b μ [.ref (b + 306), .int a1, .int a2]) (QW (fg G) b out.2 (some (.int out.1))) 0 0 (fb b) :=
  met_of [.ref (b + 306), .int a1, .int a2] (by decide) (Nat.le_of_ble_eq_true rfl) (fun F hr hW hl => wk_X12_setLevel F hr h hW va_S.rf hl)
set_option maxHeartbeats 4000000 in
set_option maxRecDepth 100000 in
theorem k_X12_setLevel {own : String} {nL : Nat} (F : FX (fg G) b own cc nL p s m args meth c) {n : Nat} {a1 : Int32} {a2 : Int32} {μ : Mm} {out : (Int32 × Mm)} (h : sh_X12_setLevel n a1 a2 μ = some out) {index : Nat} (hl : Cond.methodLink own index yX12_setLevel ∈ TBG) (hR : 3 + 1 ≤ R.frames ∧ 8 + (5 + 11) + 66 ≤ R.locals ∧ cells ≤ R.cells ∧ slots ≤ R.slots) (hW : WH (fg G) b μ H) (hS : va_S (fb b) s.heap H locs) (hsz : ls.size = nL) (hrest : (rest.map fun v => v.category).sum ≤ 8) (hdg : decode cc pc = .ok (.invokevirtual index, 3))
    (kk : ∀ (H1 : Heap) (locs1 : List Loc), WH (fg G) b out.2 H1 → va_S (fb b) s.heap H1 locs1 → W p l e R s m args below meth c H1 locs1 cells slots Q (F0 m (pc + 3) ls (.int out.1 :: rest))) : W p l e R s m args below meth c H locs cells slots Q (F0 m pc ls (.int a2 :: .int a1 :: .ref (b + 306) :: rest)) :=
  f_callV (As := [.int a1, .int a2]) (ci := 12) (c_X12_setLevel h) ⟨rfl, rfl⟩ rfl (ky_lm kyf_306 (by decide)) (wF_12 kyf_306) q_2024 q_2025 q_14 q_2026 rfl ⟨by decide +kernel, by decide +kernel, (show (parseMethodDescriptor yX12_setLevel.desc).map (fun d => d.parameters.length) = some 2 by decide +kernel)⟩ F hl hR hW hS hsz hrest rfl hdg kk
set_option maxHeartbeats 4000000 in
set_option maxRecDepth 100000 in
theorem wk_X12_isTitle_76 {n : Nat} {x1 : Int32} {x2 : Int32} {μ : Mm} {out : (Int32 × Mm)} (F : FX (fg G) b RX12 cX12_isTitle 3 p s m args meth c) (hr : meth.sig.returnType = some .boolean) (h : sh_X12_isTitle_76 n x1 x2 μ = some out) (hW : WH (fg G) b μ H) (hS : va_S (fb b) s.heap H locs) (hl : lv_has ls 3 [(1, .int x1), (2, .int x2)]) : W p l e ({ frames := 2, cells := 0, slots := 0, locals := 46 } : Room) s m args below meth c H locs 0 0 (MQ below (QW (fg G) b out.2 (some (.int out.1))) args s 0 0 (fb b)) (F0 m 76 ls []) := by
  have hx := F.1
  have hb := F.2.1
  unfold sh_X12_isTitle_76 at h
  refine lv_iload_n hx hb dX12_isTitle_76 rfl (lv_at hl 1 rfl) ?_
  refine lv_if_eq (tgt := 88) hx hb dX12_isTitle_77 (by decide) (fun cc => ?_) (fun cc => ?_)
  · replace h := (if_pos cc).symm.trans h
    refine lv_iconst (v := (0 : Int32)) hx hb dX12_isTitle_88 (by decide) ?_
    cases h
    exact r_bool F hr (Or.inl rfl) hW hS dX12_isTitle_89
  · replace h := (if_neg cc).symm.trans h
    refine lv_iload_n hx hb dX12_isTitle_80 rfl (lv_at hl 0 rfl) ?_
    refine lv_if_le (tgt := 88) hx hb dX12_isTitle_81 (by decide) (fun cc => ?_) (fun cc => ?_)
    · replace h := (if_pos cc).symm.trans h
      refine lv_iconst (v := (0 : Int32)) hx hb dX12_isTitle_88 (by decide) ?_
      cases h
      exact r_bool F hr (Or.inl rfl) hW hS dX12_isTitle_89
    · replace h := (if_neg cc).symm.trans h
      refine lv_iconst (v := (1 : Int32)) hx hb dX12_isTitle_84 (by decide) ?_
      refine lv_goto (tgt := 89) hx hb dX12_isTitle_85 (by decide) ?_
      cases h
      exact r_bool F hr (Or.inr rfl) hW hS dX12_isTitle_89
set_option maxHeartbeats 4000000 in
set_option maxRecDepth 100000 in
theorem wk_X12_isTitle_65 {n : Nat} {k21 : (Int32 → Int32 → Mm → Option (Int32 × Mm))} {x1 : Int32} {s0 : Int32} {μ : Mm} {out : (Int32 × Mm)} (F : FX (fg G) b RX12 cX12_isTitle 3 p s m args meth c) (hr : meth.sig.returnType = some .boolean) (hk21 : ∀ (x1 : Int32) (x2 : Int32) (μ : Mm) (H : Heap) (locs : List Loc) (ls : Array Slot), k21 x1 x2 μ = some out → WH (fg G) b μ H → va_S (fb b) s.heap H locs → lv_has ls 3 [(0, .ref (b + 306)), (1, .int x1), (2, .int x2)] → W p l e ({ frames := 2, cells := 0, slots := 0, locals := 46 } : Room) s m args below meth c H locs 0 0 (MQ below (QW (fg G) b out.2 (some (.int out.1))) args s 0 0 (fb b)) (F0 m 21 ls [])) (h : sh_X12_isTitle_65 n k21 x1 s0 μ = some out) (hW : WH (fg G) b μ H) (hS : va_S (fb b) s.heap H locs) (hl : lv_has ls 3 [(0, .ref (b + 306)), (1, .int x1)]) : W p l e ({ frames := 2, cells := 0, slots := 0, locals := 46 } : Room) s m args below meth c H locs 0 0 (MQ below (QW (fg G) b out.2 (some (.int out.1))) args s 0 0 (fb b)) (F0 m 65 ls [.int s0]) := by
  have hx := F.1
  have hb := F.2.1
  unfold sh_X12_isTitle_65 at h
  refine lv_istore_n (lv' := [(2, .int s0), (0, .ref (b + 306)), (1, .int x1)]) hx hb dX12_isTitle_65 rfl hl (by decide) rfl (fun ls hl => ?_)
  refine lv_iinc (v := (x1 + (1 : Int32))) (lv' := [(1, .int (x1 + (1 : Int32))), (2, .int s0), (0, .ref (b + 306))]) hx hb dX12_isTitle_66 hl (k := 2) rfl rfl (by decide) rfl (fun ls hl => ?_)
  refine lv_aload_n hx hb dX12_isTitle_69 rfl (lv_at hl 2 rfl) ?_
  obtain ⟨r4, qr4, h⟩ := ob h
  refine k_X12_scan F qr4 q_1650 ⟨Nat.le_of_ble_eq_true rfl, Nat.le_of_ble_eq_true rfl, Nat.le_of_ble_eq_true rfl, Nat.le_of_ble_eq_true rfl⟩ hW hS hl.1 (Nat.le_of_ble_eq_true rfl) dX12_isTitle_70 (fun H locs hW hS => ?_)
  refine lv_goto (tgt := 21) hx hb dX12_isTitle_73 (by decide) ?_
  exact hk21 _ _ _ _ _ _ h hW hS (lv_sub hl [2, 0, 1] rfl)
set_option maxHeartbeats 4000000 in
set_option maxRecDepth 100000 in
theorem wk_X12_isTitle_64 {n : Nat} {k21 : (Int32 → Int32 → Mm → Option (Int32 × Mm))} {x1 : Int32} {μ : Mm} {out : (Int32 × Mm)} (F : FX (fg G) b RX12 cX12_isTitle 3 p s m args meth c) (hr : meth.sig.returnType = some .boolean) (hk21 : ∀ (x1 : Int32) (x2 : Int32) (μ : Mm) (H : Heap) (locs : List Loc) (ls : Array Slot), k21 x1 x2 μ = some out → WH (fg G) b μ H → va_S (fb b) s.heap H locs → lv_has ls 3 [(0, .ref (b + 306)), (1, .int x1), (2, .int x2)] → W p l e ({ frames := 2, cells := 0, slots := 0, locals := 46 } : Room) s m args below meth c H locs 0 0 (MQ below (QW (fg G) b out.2 (some (.int out.1))) args s 0 0 (fb b)) (F0 m 21 ls [])) (h : sh_X12_isTitle_64 n k21 x1 μ = some out) (hW : WH (fg G) b μ H) (hS : va_S (fb b) s.heap H locs) (hl : lv_has ls 3 [(0, .ref (b + 306)), (1, .int x1)]) : W p l e ({ frames := 2, cells := 0, slots := 0, locals := 46 } : Room) s m args below meth c H locs 0 0 (MQ below (QW (fg G) b out.2 (some (.int out.1))) args s 0 0 (fb b)) (F0 m 64 ls []) := by
  have hx := F.1
  have hb := F.2.1
  unfold sh_X12_isTitle_64 at h
  refine lv_iconst (v := (0 : Int32)) hx hb dX12_isTitle_64 (by decide) ?_
  exact wk_X12_isTitle_65 F hr hk21 h hW hS (lv_sub hl [0, 1] rfl)
set_option maxHeartbeats 4000000 in
set_option maxRecDepth 100000 in
theorem wk_X12_isTitle_21 {n : Nat} {out : (Int32 × Mm)} (F : FX (fg G) b RX12 cX12_isTitle 3 p s m args meth c) (hr : meth.sig.returnType = some .boolean) : ∀ (f : Nat) (x1 : Int32) (x2 : Int32) (μ : Mm) (H : Heap) (locs : List Loc) (ls : Array Slot), sh_X12_isTitle_21 n f x1 x2 μ = some out → WH (fg G) b μ H → va_S (fb b) s.heap H locs → lv_has ls 3 [(0, .ref (b + 306)), (1, .int x1), (2, .int x2)] → W p l e ({ frames := 2, cells := 0, slots := 0, locals := 46 } : Room) s m args below meth c H locs 0 0 (MQ below (QW (fg G) b out.2 (some (.int out.1))) args s 0 0 (fb b)) (F0 m 21 ls []) := by
  have hx := F.1
  have hb := F.2.1
  intro f
  induction f with
  | zero =>
    intro _ _ _ _ _ _ h
    rw [sh_X12_isTitle_21] at h
    cases h
  | succ f ih =>
    intro x1 x2 μ H locs ls h hW hS hl
    rw [sh_X12_isTitle_21] at h
    have hk21 := ih
    refine lv_iload_n hx hb dX12_isTitle_21 rfl (lv_at hl 2 rfl) ?_
    refine lv_if_eq (tgt := 76) hx hb dX12_isTitle_22 (by decide) (fun cc => ?_) (fun cc => ?_)
    · replace h := (if_pos cc).symm.trans h
      exact wk_X12_isTitle_76 F hr h hW hS (lv_sub hl [1, 2] rfl)
    · replace h := (if_neg cc).symm.trans h
      refine lv_aload_n hx hb dX12_isTitle_25 rfl (lv_at hl 0 rfl) ?_
      refine fl_get12 (v := .int (μ.1 306 9)) kyf_306 F hW 9 (by decide) q_1480 rfl rfl dX12_isTitle_26 ?_
      refine lv_if_eq (tgt := 76) hx hb dX12_isTitle_29 (by decide) (fun cc => ?_) (fun cc => ?_)
      · replace h := (if_pos cc).symm.trans h
        exact wk_X12_isTitle_76 F hr h hW hS (lv_sub hl [1, 2] rfl)
      · replace h := (if_neg cc).symm.trans h
        refine lv_aload_n hx hb dX12_isTitle_32 rfl (lv_at hl 0 rfl) ?_
        refine fl_get12 (v := .int (μ.1 306 9)) kyf_306 F hW 9 (by decide) q_1480 rfl rfl dX12_isTitle_33 ?_
        refine lv_iconst (v := (1 : Int32)) hx hb dX12_isTitle_36 (by decide) ?_
        refine lv_icmp_ne (tgt := 64) hx hb dX12_isTitle_37 (by decide) (fun cc => ?_) (fun cc => ?_)
        · replace h := (if_neg cc).symm.trans h
          exact wk_X12_isTitle_64 F hr hk21 h hW hS (lv_sub hl [0, 1] rfl)
        · replace h := (if_pos cc).symm.trans h
          refine lv_aload_n hx hb dX12_isTitle_40 rfl (lv_at hl 0 rfl) ?_
          refine fl_get12 (v := .int (μ.1 306 7)) kyf_306 F hW 7 (by decide) q_1478 rfl rfl dX12_isTitle_41 ?_
          refine lv_aload_n hx hb dX12_isTitle_44 rfl (lv_at hl 0 rfl) ?_
          refine fl_get12 (v := .int (μ.1 306 8)) kyf_306 F hW 8 (by decide) q_1479 rfl rfl dX12_isTitle_45 ?_
          refine lv_isub hx hb dX12_isTitle_48 ?_
          refine lv_bipush (v := (12 : Int32)) hx hb dX12_isTitle_49 (by decide) ?_
          refine lv_icmp_gt (tgt := 64) hx hb dX12_isTitle_51 (by decide) (fun cc => ?_) (fun cc => ?_)
          · replace h := (if_pos cc).symm.trans h
            exact wk_X12_isTitle_64 F hr hk21 h hW hS (lv_sub hl [0, 1] rfl)
          · replace h := (if_neg cc).symm.trans h
            refine lv_iload_n hx hb dX12_isTitle_54 rfl (lv_at hl 1 rfl) ?_
            refine lv_bipush (v := (8 : Int32)) hx hb dX12_isTitle_55 (by decide) ?_
            refine lv_icmp_ge (tgt := 64) hx hb dX12_isTitle_57 (by decide) (fun cc => ?_) (fun cc => ?_)
            · replace h := (if_pos cc).symm.trans h
              exact wk_X12_isTitle_64 F hr hk21 h hW hS (lv_sub hl [0, 1] rfl)
            · replace h := (if_neg cc).symm.trans h
              refine lv_iconst (v := (1 : Int32)) hx hb dX12_isTitle_60 (by decide) ?_
              refine lv_goto (tgt := 65) hx hb dX12_isTitle_61 (by decide) ?_
              exact wk_X12_isTitle_65 F hr hk21 h hW hS (lv_sub hl [0, 1] rfl)
set_option maxHeartbeats 4000000 in
set_option maxRecDepth 100000 in
theorem wk_X12_isTitle {n : Nat} {μ : Mm} {out : (Int32 × Mm)} (F : FX (fg G) b RX12 cX12_isTitle 3 p s m args meth c) (hr : meth.sig.returnType = some .boolean) (h : sh_X12_isTitle n  μ = some out) (hW : WH (fg G) b μ H) (hS : va_S (fb b) s.heap H locs) (hl : lv_has ls 3 [(0, .ref (b + 306))]) : W p l e ({ frames := 2, cells := 0, slots := 0, locals := 46 } : Room) s m args below meth c H locs 0 0 (MQ below (QW (fg G) b out.2 (some (.int out.1))) args s 0 0 (fb b)) (F0 m 0 ls []) := by
  have hx := F.1
  have hb := F.2.1
  unfold sh_X12_isTitle at h
  refine lv_aload_n hx hb dX12_isTitle_0 rfl (lv_at hl 0 rfl) ?_
  refine lv_aload_n hx hb dX12_isTitle_1 rfl (lv_at hl 0 rfl) ?_
  refine fl_get12 (v := .int (μ.1 306 5)) kyf_306 F hW 5 (by decide) q_1476 rfl rfl dX12_isTitle_2 ?_
  obtain ⟨μ1, hmμ1, h⟩ := ob h
  refine fl_put12_6 kyf_306 F hW hS q_1477 hmμ1 dX12_isTitle_5 (fun H locs hW hS => ?_)
  refine lv_aload_n hx hb dX12_isTitle_8 rfl (lv_at hl 0 rfl) ?_
  refine lv_iconst (v := (0 : Int32)) hx hb dX12_isTitle_9 (by decide) ?_
  obtain ⟨μ2, hmμ2, h⟩ := ob h
  refine fl_put12_7 kyf_306 F hW hS q_1478 hmμ2 dX12_isTitle_10 (fun H locs hW hS => ?_)
  refine lv_iconst (v := (0 : Int32)) hx hb dX12_isTitle_13 (by decide) ?_
  refine lv_istore_n (lv' := [(1, .int (0 : Int32)), (0, .ref (b + 306))]) hx hb dX12_isTitle_14 rfl hl (by decide) rfl (fun ls hl => ?_)
  refine lv_iconst (v := (1 : Int32)) hx hb dX12_isTitle_15 (by decide) ?_
  refine lv_istore_n (lv' := [(2, .int (1 : Int32)), (1, .int (0 : Int32)), (0, .ref (b + 306))]) hx hb dX12_isTitle_16 rfl hl (by decide) rfl (fun ls hl => ?_)
  refine lv_aload_n hx hb dX12_isTitle_17 rfl (lv_at hl 2 rfl) ?_
  obtain ⟨r3, qr3, h⟩ := ob h
  refine k_X12_scan F qr3 q_1650 ⟨Nat.le_of_ble_eq_true rfl, Nat.le_of_ble_eq_true rfl, Nat.le_of_ble_eq_true rfl, Nat.le_of_ble_eq_true rfl⟩ hW hS hl.1 (Nat.le_of_ble_eq_true rfl) dX12_isTitle_18 (fun H locs hW hS => ?_)
  exact wk_X12_isTitle_21 F hr n _ _ _ _ _ _ h hW hS (lv_sub hl [2, 1, 0] rfl)
set_option maxHeartbeats 4000000 in
set_option maxRecDepth 100000 in
theorem c_X12_isTitle {l : Launch} {G : Gt} {b : Nat} {n : Nat} {μ : Mm} {out : (Int32 × Mm)} (h : sh_X12_isTitle n  μ = some out) : Met l yX12_isTitle (wU (Cond.code yX12_isTitle cX12_isTitle 3 (some .boolean))) ({ frames := 2, cells := 0, slots := 0, locals := 46 } : Room) (PcW (fg G) b μ [.ref (b + 306)]) (QW (fg G) b out.2 (some (.int out.1))) 0 0 (fb b) :=
  met_of [.ref (b + 306)] (by decide) (Nat.le_of_ble_eq_true rfl) (fun F hr hW hl => wk_X12_isTitle F hr h hW va_S.rf hl)
set_option maxHeartbeats 4000000 in
set_option maxRecDepth 100000 in
theorem k_X12_isTitle {own : String} {nL : Nat} (F : FX (fg G) b own cc nL p s m args meth c) {n : Nat} {μ : Mm} {out : (Int32 × Mm)} (h : sh_X12_isTitle n  μ = some out) {index : Nat} (hl : Cond.methodLink own index yX12_isTitle ∈ TBG) (hR : 2 + 1 ≤ R.frames ∧ 8 + (3 + 11) + 46 ≤ R.locals ∧ cells ≤ R.cells ∧ slots ≤ R.slots) (hW : WH (fg G) b μ H) (hS : va_S (fb b) s.heap H locs) (hsz : ls.size = nL) (hrest : (rest.map fun v => v.category).sum ≤ 8) (hdg : decode cc pc = .ok (.invokevirtual index, 3))
    (kk : ∀ (H1 : Heap) (locs1 : List Loc), WH (fg G) b out.2 H1 → va_S (fb b) s.heap H1 locs1 → W p l e R s m args below meth c H1 locs1 cells slots Q (F0 m (pc + 3) ls (.int out.1 :: rest))) : W p l e R s m args below meth c H locs cells slots Q (F0 m pc ls (.ref (b + 306) :: rest)) :=
  f_callV (As := []) (ci := 12) (c_X12_isTitle h) ⟨rfl, rfl⟩ rfl (ky_lm kyf_306 (by decide)) (wF_12 kyf_306) q_2037 qp_104 q_14 q_2038 rfl ⟨by decide +kernel, by decide +kernel, (show (parseMethodDescriptor yX12_isTitle.desc).map (fun d => d.parameters.length) = some 0 by decide +kernel)⟩ F hl hR hW hS hsz hrest rfl hdg kk
end G152
